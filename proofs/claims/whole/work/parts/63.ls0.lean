/-! Long.toString of a small number: its letters -/
def expL (z : Int) : Nat := (if z < 0 then 1 else 0) + (if z.natAbs < 10 then 1 else if z.natAbs < 100 then 2 else 3)
theorem expL_len (z : Int) : (expT z).length = expL z := by
  unfold expT expL
  simp only [List.length_append]
  by_cases h1 : z < 0 <;> by_cases h2 : z.natAbs < 10 <;> by_cases h3 : z.natAbs < 100 <;> simp [h1, h2, h3, show (100 ≤ z.natAbs) = ¬ (z.natAbs < 100) by simp, show (10 ≤ z.natAbs) = ¬ (z.natAbs < 10) by simp] <;> omega
def lOnes : Nat → Int32 := fun j => nI (48 + j % 10)
def lTens : Nat → Int32 := fun j => nI (48 + j / 10)
/-- the JDK's two rows of digits -/
def digE (o1 o2 : Nat) : (Nat → Prop) → State → Heap → Prop := fun A U H => va_Z "java/lang/Integer" "DigitOnes" "[B" (.ref o1) A U H ∧ va_T .byte o1 100 (fun j => .int (lOnes j)) A U H ∧ va_Z "java/lang/Integer" "DigitTens" "[B" (.ref o2) A U H ∧ va_T .byte o2 100 (fun j => .int (lTens j)) A U H
theorem digE_ok (o1 o2 : Nat) : EOk (digE o1 o2) := (EOk_Z _ _ _ _).and ((EOk_T _ _ _ _).and ((EOk_Z _ _ _ _).and (EOk_T _ _ _ _)))
theorem lI_lt {a b : Int} (a1 : -2 ^ 40 ≤ a) (a2 : a < 2 ^ 40) (b1 : -2 ^ 40 ≤ b) (b2 : b < 2 ^ 40) : lI a < lI b ↔ a < b := by rw [Int64.lt_iff_toInt_lt, lI_toInt (by omega) (by omega), lI_toInt (by omega) (by omega)]
theorem lI_neg (a : Int) : -lI a = lI (-a) := (Int64.ofInt_neg a).symm
theorem mi_nI (w : Nat) : iI (-(w : Int)) = -nI w := by rw [← iI_neg, iI_nat]
theorem nn_nI (w : Nat) : -(-nI w) = nI w := by rw [← iI_nat, iI_neg, iI_neg, Int.neg_neg]
/-- letters of an exponent, by its size -/
theorem exp_A {z : Int} (h : z.natAbs < 10) : expT z = (if z < 0 then [45] else []) ++ [48 + z.natAbs % 10] := by
  unfold expT
  rw [if_neg (show ¬ 100 ≤ z.natAbs by omega), if_neg (show ¬ 10 ≤ z.natAbs by omega), List.append_nil, List.append_nil]
theorem exp_B {z : Int} (h1 : 10 ≤ z.natAbs) (h2 : z.natAbs < 100) : expT z = (if z < 0 then [45] else []) ++ [48 + z.natAbs / 10 % 10, 48 + z.natAbs % 10] := by
  unfold expT
  rw [if_neg (show ¬ 100 ≤ z.natAbs by omega), if_pos h1, List.append_nil, List.append_assoc]
  rfl
theorem exp_C {z : Int} (h1 : 100 ≤ z.natAbs) : expT z = (if z < 0 then [45] else []) ++ [48 + z.natAbs / 100 % 10, 48 + z.natAbs / 10 % 10, 48 + z.natAbs % 10] := by
  unfold expT
  rw [if_pos h1, if_pos (show 10 ≤ z.natAbs by omega), List.append_assoc, List.append_assoc]
  rfl
