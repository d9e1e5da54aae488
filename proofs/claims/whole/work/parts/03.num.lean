/-! rows of kit/laws/BITS.to-paste, as given for pasting -/
theorem wb_tb (n : Nat) : (lN n).toBitVec = BitVec.ofNat 64 n := rfl
theorem wb_inj {a b : Int64} (h : a.toBitVec = b.toBitVec) : a = b := Int64.toBitVec_inj.mp h
theorem wb_tn {n : Nat} (h : n < 2 ^ 64) : (lN n).toBitVec.toNat = n := by rw [wb_tb, BitVec.toNat_ofNat, Nat.mod_eq_of_lt h]
theorem wb_of (x : Int64) : ∃ n, n < 2 ^ 64 ∧ x = lN n := ⟨x.toBitVec.toNat, x.toBitVec.isLt, wb_inj (by rw [wb_tb]; simp)⟩
theorem wb_of32 (x : Int32) : ∃ n, n < 2 ^ 32 ∧ x = nI n := ⟨x.toBitVec.toNat, x.toBitVec.isLt, Int32.toBitVec_inj.mp (by show _ = BitVec.ofNat 32 _; simp)⟩
theorem wb_c : ∀ k, k < 64 → ((nI k).toInt64 &&& 63) = lN k := by decide +kernel
theorem wb_cu : ∀ k, k < 64 → ((nI k).toInt64.toUInt64 &&& Int64.toUInt64 63) = UInt64.ofNat k := by decide +kernel
theorem wb_sm : ∀ k, k < 64 → (BitVec.ofNat 64 k).smod 64 = BitVec.ofNat 64 k := by decide +kernel
theorem wb_pw {a b : Nat} (h : a ≤ b) : 2 ^ b = 2 ^ a * 2 ^ (b - a) := by rw [← Nat.pow_add]; congr 1; omega
theorem wb_lt2 {a b : Nat} (h : a < b) : 2 ^ a < 2 ^ b := Nat.pow_lt_pow_right (by decide) h
theorem wb_mod (n : Nat) : lN n = lN (n % 2 ^ 64) := wb_inj (by rw [wb_tb, wb_tb]; apply BitVec.eq_of_toNat_eq; rw [BitVec.toNat_ofNat, BitVec.toNat_ofNat, Nat.mod_mod])
theorem wb_shr {n k : Nat} (hn : n < 2 ^ 64) (hk : k < 64) : ((lN n).toUInt64 >>> ((nI k).toInt64.toUInt64 &&& Int64.toUInt64 63)).toInt64 = lN (n / 2 ^ k) := by
  rw [wb_cu k hk]
  apply wb_inj
  apply BitVec.eq_of_toNat_eq
  show ((lN n).toUInt64 >>> UInt64.ofNat k).toNat = (BitVec.ofNat 64 _).toNat
  have h1 : (UInt64.ofNat k).toNat = k := by
    show (BitVec.ofNat 64 k).toNat = k
    rw [BitVec.toNat_ofNat, Nat.mod_eq_of_lt (by omega)]
  have h2 : (lN n).toUInt64.toNat = n := wb_tn hn
  rw [UInt64.toNat_shiftRight, h1, h2, Nat.mod_eq_of_lt hk, Nat.shiftRight_eq_div_pow, BitVec.toNat_ofNat, Nat.mod_eq_of_lt (Nat.lt_of_le_of_lt (Nat.div_le_self _ _) hn)]
theorem wb_shl (n : Nat) {k : Nat} (hk : k < 64) : lN n <<< ((nI k).toInt64 &&& 63) = lN (n * 2 ^ k) := by
  rw [wb_c k hk]
  apply wb_inj
  rw [Int64.toBitVec_shiftLeft, wb_tb, wb_tb, wb_tb, wb_sm k hk]
  apply BitVec.eq_of_toNat_eq
  rw [BitVec.shiftLeft_eq', BitVec.toNat_shiftLeft, BitVec.toNat_ofNat, BitVec.toNat_ofNat, BitVec.toNat_ofNat, Nat.mod_eq_of_lt (show k < 2 ^ 64 by omega), Nat.shiftLeft_eq, Nat.mul_mod, Nat.mod_mod, ← Nat.mul_mod]
theorem wb_and {a b : Nat} (ha : a < 2 ^ 64) (hb : b < 2 ^ 64) : lN a &&& lN b = lN (a &&& b) := by
  apply wb_inj
  rw [Int64.toBitVec_and, wb_tb, wb_tb, wb_tb]
  apply BitVec.eq_of_toNat_eq
  rw [BitVec.toNat_and, BitVec.toNat_ofNat, BitVec.toNat_ofNat, BitVec.toNat_ofNat, Nat.mod_eq_of_lt ha, Nat.mod_eq_of_lt hb, Nat.mod_eq_of_lt (Nat.and_lt_two_pow _ hb)]
theorem wb_or {a b : Nat} (ha : a < 2 ^ 64) (hb : b < 2 ^ 64) : lN a ||| lN b = lN (a ||| b) := by
  apply wb_inj
  rw [Int64.toBitVec_or, wb_tb, wb_tb, wb_tb]
  apply BitVec.eq_of_toNat_eq
  rw [BitVec.toNat_or, BitVec.toNat_ofNat, BitVec.toNat_ofNat, BitVec.toNat_ofNat, Nat.mod_eq_of_lt ha, Nat.mod_eq_of_lt hb, Nat.mod_eq_of_lt (Nat.or_lt_two_pow ha hb)]
theorem wb_mask {n k : Nat} (hn : n < 2 ^ 64) (hk : k < 64) : lN n &&& lN (2 ^ k - 1) = lN (n % 2 ^ k) := by
  rw [wb_and hn (by have := wb_lt2 hk; omega), Nat.and_two_pow_sub_one_eq_mod]
theorem wb_a1 {n : Nat} (hn : n < 2 ^ 64) : lN n &&& 1 = lN (n % 2) := wb_mask (k := 1) hn (by decide)
theorem wb_bit {n k : Nat} (hn : n < 2 ^ 64) (hk : k < 64) : ((lN n).toUInt64 >>> ((nI k).toInt64.toUInt64 &&& Int64.toUInt64 63)).toInt64 &&& 1 = lN (n / 2 ^ k % 2) := by
  rw [wb_shr hn hk, wb_a1 (Nat.lt_of_le_of_lt (Nat.div_le_self _ _) hn)]
theorem wb_xor {q k : Nat} (hk : k < 63) (h : 2 ^ k ≤ q) (h2 : q < 2 ^ (k + 1)) : lN q ^^^ lN (2 ^ k) = lN (q - 2 ^ k) := by
  obtain ⟨r, rfl⟩ : ∃ r, q = 2 ^ k + r := ⟨q - 2 ^ k, by omega⟩
  have hr : r < 2 ^ k := by rw [Nat.pow_succ] at h2; omega
  have hx : (2 ^ k + r) ^^^ 2 ^ k = r := by
    apply Nat.eq_of_testBit_eq
    intro i
    rw [Nat.testBit_xor, Nat.testBit_two_pow]
    rcases Nat.lt_trichotomy i k with h | h | h
    · rw [Nat.testBit_two_pow_add_gt h]
      simp [show ¬ k = i by omega]
    · subst h
      rw [Nat.testBit_two_pow_add_eq]
      simp
    · have a1 : 2 ^ (k + 1) ≤ 2 ^ i := Nat.pow_le_pow_right (by decide) h
      rw [Nat.testBit_lt_two_pow (show 2 ^ k + r < 2 ^ i by omega), Nat.testBit_lt_two_pow (show r < 2 ^ i by omega)]
      simp [show ¬ k = i by omega]
  have b1 := wb_lt2 (show k + 1 < 64 by omega)
  have b2 := wb_lt2 (show k < 64 by omega)
  apply wb_inj
  rw [Int64.toBitVec_xor, wb_tb, wb_tb, wb_tb]
  apply BitVec.eq_of_toNat_eq
  rw [BitVec.toNat_xor, BitVec.toNat_ofNat, BitVec.toNat_ofNat, BitVec.toNat_ofNat, Nat.mod_eq_of_lt (by omega : 2 ^ k + r < 2 ^ 64), Nat.mod_eq_of_lt b2, hx, Nat.add_sub_cancel_left, Nat.mod_eq_of_lt (by omega)]
/-! ===== lN: masks, 'or' of parts that don't overlap is a sum ===== -/
theorem u_tn {n : Nat} (h : n < 2 ^ 64) : (UInt64.ofNat n).toNat = n := Nat.mod_eq_of_lt h
theorem g_and {a b c : Nat} (ha : a < 2 ^ 64) (hb : b < 2 ^ 64) (hc : a &&& b = c) : lN a &&& lN b = lN c := by
  subst hc
  have h : UInt64.ofNat a &&& UInt64.ofNat b = UInt64.ofNat (a &&& b) := UInt64.toNat_inj.mp (by rw [UInt64.toNat_and, u_tn ha, u_tn hb, u_tn (Nat.and_lt_two_pow a hb)])
  have h2 := congrArg UInt64.toInt64 h
  exact h2
theorem g_and1 {a : Nat} (ha : a < 2 ^ 64) : lN a &&& 1 = lN (a % 2) := g_and (b := 1) ha (by decide) (Nat.and_two_pow_sub_one_eq_mod a 1)
theorem g_mask {a s p : Nat} (hp : 2 ^ s = p) (hs : s < 64) (ha : a < 2 ^ 64) : lN a &&& lN (p - 1) = lN (a % p) := by
  subst hp
  have := Nat.pow_lt_pow_right (show 1 < 2 by decide) hs
  exact g_and ha (by omega) (Nat.and_two_pow_sub_one_eq_mod a s)
theorem g_or {k p a b : Nat} (hp : 2 ^ k = p) (ha : a < p) (h : b * p + a < 2 ^ 64) : lN (b * p) ||| lN a = lN (b * p + a) := by
  subst hp
  have h1 : b * 2 ^ k ||| a = b * 2 ^ k + a := by rw [← Nat.shiftLeft_eq, Nat.shiftLeft_add_eq_or_of_lt ha]
  have h3 : UInt64.ofNat (b * 2 ^ k) ||| UInt64.ofNat a = UInt64.ofNat (b * 2 ^ k + a) := UInt64.toNat_inj.mp (by rw [UInt64.toNat_or, u_tn (by omega), u_tn (by omega), u_tn h, h1])
  have h2 := congrArg UInt64.toInt64 h3
  exact h2
theorem g_or' {k p a b : Nat} (hp : 2 ^ k = p) (ha : a < p) (h : a + b * p < 2 ^ 64) : lN a ||| lN (b * p) = lN (a + b * p) := by
  rw [Int64.or_comm, g_or hp ha (by omega), Nat.add_comm]
theorem g_ushr {a k p : Nat} {y : UInt64} (hy : y = UInt64.ofNat k) (hk : k < 64) (hp : 2 ^ k = p) (ha : a < 2 ^ 64) : ((lN a).toUInt64 >>> y).toInt64 = lN (a / p) := by
  subst hy hp
  have h : UInt64.ofNat a >>> UInt64.ofNat k = UInt64.ofNat (a / 2 ^ k) := UInt64.toNat_inj.mp (by rw [UInt64.toNat_shiftRight, u_tn ha, u_tn (by omega), u_tn (Nat.lt_of_le_of_lt (Nat.div_le_self _ _) ha), Nat.mod_eq_of_lt hk, Nat.shiftRight_eq_div_pow])
  have h2 := congrArg UInt64.toInt64 h
  exact h2
theorem g_shl {a k p : Nat} {y : Int64} (hy : y.toBitVec.smod 64 = BitVec.ofNat 64 k) (hk : k < 64) (hp : 2 ^ k = p) (ha : a < 2 ^ 64) : lN a <<< y = lN (a * p) := by
  subst hp
  apply Int64.toBitVec_inj.mp
  rw [Int64.toBitVec_shiftLeft, hy]
  apply BitVec.eq_of_toNat_eq
  have hb : (lN a).toBitVec.toNat = a := Nat.mod_eq_of_lt ha
  have hk' : (BitVec.ofNat 64 k).toNat = k := Nat.mod_eq_of_lt (by omega)
  have h : ((lN a).toBitVec <<< BitVec.ofNat 64 k).toNat = (a * 2 ^ k) % 2 ^ 64 := by simp only [BitVec.shiftLeft_eq', BitVec.toNat_shiftLeft, hb, hk', Nat.shiftLeft_eq]
  exact h
/-! unsigned value of a limb; ints and longs that may be negative -/
def ul (x : Int32) : Nat := x.toBitVec.toNat
theorem ul_lt (x : Int32) : ul x < 2 ^ 32 := x.toBitVec.isLt
theorem ul_nI (n : Nat) : ul (nI n) = n % 2 ^ 32 := BitVec.toNat_ofNat ..
theorem nI_ul (x : Int32) : nI (ul x) = x := Int32.toBitVec_inj.mp (by show BitVec.ofNat 32 _ = _; simp [ul])
theorem ul_0 : ul 0 = 0 := rfl
theorem ul_eq0 {x : Int32} : ul x = 0 ↔ x = 0 := ⟨fun h => by rw [← nI_ul x, h]; rfl, fun h => by rw [h]; rfl⟩
theorem nI_mod (n : Nat) : nI n = nI (n % 2 ^ 32) := Int32.toBitVec_inj.mp (by show BitVec.ofNat 32 _ = BitVec.ofNat 32 _; apply BitVec.eq_of_toNat_eq; rw [BitVec.toNat_ofNat, BitVec.toNat_ofNat, Nat.mod_mod])
theorem ul_mask (x : Int32) : x.toInt64 &&& 4294967295 = lN (ul x) := by
  have h := wb_mask (n := x.toInt64.toBitVec.toNat) (k := 32) (BitVec.isLt _) (by decide)
  have e : lN x.toInt64.toBitVec.toNat = x.toInt64 := wb_inj (by rw [wb_tb]; simp)
  rw [e] at h
  have h3 : x.toInt64.toBitVec.toNat % 2 ^ 32 = ul x := by
    have hx := x.toBitVec.isLt
    have h4 : x.toInt64.toBitVec = x.toBitVec.signExtend 64 := by simp
    rw [h4, BitVec.toNat_signExtend, BitVec.toNat_setWidth]
    show _ = x.toBitVec.toNat
    split <;> omega
  rw [h3] at h
  exact h
/-- an int, a long of an integer -/
def iI (z : Int) : Int32 := Int32.ofInt z
def lI (z : Int) : Int64 := Int64.ofInt z
theorem iI_nat (n : Nat) : iI (n : Int) = nI n := Int32.toBitVec_inj.mp (by show BitVec.ofInt 32 _ = BitVec.ofNat 32 _; simp)
theorem lI_nat (n : Nat) : lI (n : Int) = lN n := Int64.toBitVec_inj.mp (by show BitVec.ofInt 64 _ = BitVec.ofNat 64 _; simp)
theorem iI_toInt {z : Int} (h1 : -2 ^ 31 ≤ z) (h2 : z < 2 ^ 31) : (iI z).toInt = z := Int32.toInt_ofInt_of_le h1 h2
theorem lI_toInt {z : Int} (h1 : -2 ^ 63 ≤ z) (h2 : z < 2 ^ 63) : (lI z).toInt = z := Int64.toInt_ofInt_of_le h1 h2
theorem iI_of (x : Int32) : iI x.toInt = x := Int32.ofInt_toInt x
theorem lI_of (x : Int64) : lI x.toInt = x := Int64.ofInt_toInt x
theorem iI_add (a b : Int) : iI a + iI b = iI (a + b) := (Int32.ofInt_add a b).symm
theorem iI_sub (a b : Int) : iI a - iI b = iI (a - b) := (Int32.ofInt_sub a b).symm
theorem iI_mul (a b : Int) : iI a * iI b = iI (a * b) := (Int32.ofInt_mul a b).symm
theorem iI_neg (a : Int) : -iI a = iI (-a) := (Int32.ofInt_neg a).symm
theorem lI_add (a b : Int) : lI a + lI b = lI (a + b) := (Int64.ofInt_add a b).symm
theorem lI_sub (a b : Int) : lI a - lI b = lI (a - b) := (Int64.ofInt_sub a b).symm
theorem lI_mul (a b : Int) : lI a * lI b = lI (a * b) := (Int64.ofInt_mul a b).symm
theorem iI_l {z : Int} (h1 : -2 ^ 31 ≤ z) (h2 : z < 2 ^ 31) : (iI z).toInt64 = lI z := Int64.toInt_inj.mp (by rw [Int32.toInt_toInt64, iI_toInt h1 h2, lI_toInt (by omega) (by omega)])
theorem lI_i (z : Int) : (lI z).toInt32 = iI z := Int64.toInt32_ofInt
theorem iI_lt {a b : Int} (a1 : -2 ^ 31 ≤ a) (a2 : a < 2 ^ 31) (b1 : -2 ^ 31 ≤ b) (b2 : b < 2 ^ 31) : iI a < iI b ↔ a < b := by rw [Int32.lt_iff_toInt_lt, iI_toInt a1 a2, iI_toInt b1 b2]
theorem iI_le {a b : Int} (a1 : -2 ^ 31 ≤ a) (a2 : a < 2 ^ 31) (b1 : -2 ^ 31 ≤ b) (b2 : b < 2 ^ 31) : iI a ≤ iI b ↔ a ≤ b := by rw [Int32.le_iff_toInt_le, iI_toInt a1 a2, iI_toInt b1 b2]
theorem iI_eq {a b : Int} (a1 : -2 ^ 31 ≤ a) (a2 : a < 2 ^ 31) (b1 : -2 ^ 31 ≤ b) (b2 : b < 2 ^ 31) : iI a = iI b ↔ a = b := by rw [← Int32.toInt_inj, iI_toInt a1 a2, iI_toInt b1 b2]
theorem ul_iI (z : Int) : (ul (iI z) : Int) = z % 2 ^ 32 := by
  show ((BitVec.ofInt 32 z).toNat : Int) = _
  rw [BitVec.toNat_ofInt, Int.toNat_of_nonneg (Int.emod_nonneg _ (by decide))]
  rfl
theorem lI_shr {z : Int} (h1 : -2 ^ 63 ≤ z) (h2 : z < 2 ^ 63) : lI z >>> ((32 : Int32).toInt64 &&& 63) = lI (z / 2 ^ 32) := Int64.toInt_inj.mp (by
  have e : (lI z >>> ((32 : Int32).toInt64 &&& 63)).toInt = (lI z).toInt >>> 32 := BitVec.toInt_sshiftRight ..
  rw [e, lI_toInt h1 h2, Int.shiftRight_eq_div_pow, lI_toInt (by omega) (by omega)]
  rfl)
/-! the value of a row of limbs -/
def nv (f : Nat → Int32) : Nat → Nat
  | 0 => 0
  | n + 1 => nv f n + ul (f n) * 2 ^ (32 * n)
theorem pw32 (n : Nat) : 2 ^ (32 * (n + 1)) = 2 ^ (32 * n) * 4294967296 := by rw [Nat.mul_add, Nat.pow_add]
theorem nv_congr {f g : Nat → Int32} : ∀ {n : Nat}, (∀ j, j < n → f j = g j) → nv f n = nv g n
  | 0, _ => rfl
  | n + 1, h => by show nv f n + _ = nv g n + _; rw [nv_congr (fun j hj => h j (by omega)), h n (by omega)]
theorem nv_upd {f : Nat → Int32} {k n : Nat} {x : Int32} (h : n ≤ k) : nv (upd f k x) n = nv f n := nv_congr (fun j hj => pk_un (by omega))
theorem nv_lt (f : Nat → Int32) : ∀ n : Nat, nv f n < 2 ^ (32 * n)
  | 0 => by show 0 < 1; decide
  | n + 1 => by
    show nv f n + ul (f n) * 2 ^ (32 * n) < _
    have h1 := nv_lt f n
    have h2 := ul_lt (f n)
    rw [pw32]
    generalize 2 ^ (32 * n) = P at *
    have h3 : ul (f n) * P ≤ 4294967295 * P := Nat.mul_le_mul_right P (by omega)
    omega
theorem nv_ext {f : Nat → Int32} {u : Nat} : ∀ {n : Nat}, u ≤ n → (∀ j, u ≤ j → j < n → f j = 0) → nv f n = nv f u
  | 0, h, _ => by rw [show u = 0 by omega]
  | n + 1, h, hz => by
    by_cases hu : u = n + 1
    · rw [hu]
    · show nv f n + _ = _
      rw [nv_ext (n := n) (by omega) (fun j h1 h2 => hz j h1 (by omega)), hz n (by omega) (by omega), ul_0]
      omega
/-- a Natural: the row, how many limbs are used, its value -/
def Nt (f : Nat → Int32) (u v : Nat) : Prop := u ≤ 28 ∧ (∀ j, u ≤ j → j < 28 → f j = 0) ∧ nv f u = v
theorem Nt.full {f : Nat → Int32} {u v : Nat} (h : Nt f u v) {n : Nat} (h1 : u ≤ n) (h2 : n ≤ 28) : nv f n = v := by rw [nv_ext h1 (fun j a b => h.2.1 j a (by omega)), h.2.2]
theorem mul_step {f g : Nat → Int32} {i c k t : Nat} (hi : nv g i + c * 2 ^ (32 * i) = nv f i * k) (ht : t = c + ul (f i) * k) : nv (upd g i (nI t)) (i + 1) + t / 2 ^ 32 * 2 ^ (32 * (i + 1)) = nv f (i + 1) * k := by
  show nv (upd g i (nI t)) i + ul (upd g i (nI t) i) * 2 ^ (32 * i) + _ = (nv f i + ul (f i) * 2 ^ (32 * i)) * k
  rw [nv_upd (Nat.le_refl i), pk_us, ul_nI, pw32]
  generalize 2 ^ (32 * i) = P at *
  have h1 : t % 2 ^ 32 * P + t / 2 ^ 32 * (P * 4294967296) = t * P := by
    have h2 : t % 2 ^ 32 + 4294967296 * (t / 2 ^ 32) = t := Nat.mod_add_div t (2 ^ 32)
    have h3 : t * P = (t % 2 ^ 32 + 4294967296 * (t / 2 ^ 32)) * P := by rw [h2]
    rw [h3]
    grind
  have h4 : t * P = c * P + ul (f i) * k * P := by rw [ht, Nat.add_mul]
  grind
theorem add_step {f a b : Nat → Int32} {i c t : Nat} (hi : nv f i + c * 2 ^ (32 * i) = nv a i + nv b i) (ht : t = c + (ul (a i) + ul (b i))) : nv (upd f i (nI t)) (i + 1) + t / 2 ^ 32 * 2 ^ (32 * (i + 1)) = nv a (i + 1) + nv b (i + 1) := by
  show nv (upd f i (nI t)) i + ul (upd f i (nI t) i) * 2 ^ (32 * i) + _ = (nv a i + ul (a i) * 2 ^ (32 * i)) + (nv b i + ul (b i) * 2 ^ (32 * i))
  rw [nv_upd (Nat.le_refl i), pk_us, ul_nI, pw32]
  generalize 2 ^ (32 * i) = P at *
  have h1 : t % 2 ^ 32 * P + t / 2 ^ 32 * (P * 4294967296) = t * P := by
    have h2 : t % 2 ^ 32 + 4294967296 * (t / 2 ^ 32) = t := Nat.mod_add_div t (2 ^ 32)
    have h3 : t * P = (t % 2 ^ 32 + 4294967296 * (t / 2 ^ 32)) * P := by rw [h2]
    rw [h3]
    grind
  have h4 : t * P = c * P + (ul (a i) + ul (b i)) * P := by rw [ht, Nat.add_mul]
  grind
theorem sub_step {g f o : Nat → Int32} {i : Nat} {z t : Int} (hi : (nv g i : Int) + z * 2 ^ (32 * i) = nv f i - nv o i) (ht : t = z + ((ul (f i) : Int) - ul (o i))) : (nv (upd g i (iI t)) (i + 1) : Int) + t / 2 ^ 32 * 2 ^ (32 * (i + 1)) = nv f (i + 1) - nv o (i + 1) := by
  have e1 : nv (upd g i (iI t)) (i + 1) = nv g i + ul (iI t) * 2 ^ (32 * i) := by
    show nv (upd g i (iI t)) i + ul (upd g i (iI t) i) * 2 ^ (32 * i) = _
    rw [nv_upd (Nat.le_refl i), pk_us]
  have e2 : nv f (i + 1) = nv f i + ul (f i) * 2 ^ (32 * i) := rfl
  have e3 : nv o (i + 1) = nv o i + ul (o i) * 2 ^ (32 * i) := rfl
  have e5 := ul_iI t
  rw [e1, e2, e3]
  push_cast
  have e6 : t % 2 ^ 32 + 4294967296 * (t / 2 ^ 32) = t := Int.emod_add_mul_ediv t (2 ^ 32)
  rw [show (2 : Int) ^ (32 * (i + 1)) = 2 ^ (32 * i) * 4294967296 by rw [show 32 * (i + 1) = 32 * i + 32 by omega, Int.pow_add]; rfl]
  generalize (2 : Int) ^ (32 * i) = P at *
  rw [e5]
  grind
