/-! the estimate of the point: L = l - 1074 is the binary logarithm of x, rounded down -/
def pt0 (z : Int) : Int := 1 + z * 661971961083 / 2199023255552
def ptN (l : Nat) : Nat := (pt0 ((l : Int) - 1074) + 1100).toNat
def estOk (l : Nat) : Bool := decide (10 ^ (ptN l - 1) ≤ 2 ^ (l + 26) * 5 ^ 1100) && decide (2 ^ (l + 27) * 5 ^ 1100 ≤ 10 ^ (ptN l + 1)) && decide (700 ≤ ptN l) && decide (ptN l ≤ 1500) && decide ((ptN l : Int) = pt0 ((l : Int) - 1074) + 1100)
  && decide (5 ^ (1100 - ptN l) * 2 ^ (max 55 (l + 27 - ptN l)) * 10 ^ 18 < 2 ^ 890) && decide (5 ^ (ptN l - 1100) * 2 ^ (ptN l + 28 - l) * 10 ^ 2 < 2 ^ 890) && decide (l + 24 - ptN l ≤ 800) && decide (ptN l + 28 - l ≤ 830)
set_option maxRecDepth 100000 in
theorem est_all : (List.range 2098).all estOk = true := by decide +kernel
theorem est_at {l : Nat} (h : l < 2098) : estOk l = true := List.all_eq_true.mp est_all l (List.mem_range.mpr h)
