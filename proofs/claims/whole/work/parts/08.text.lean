/-! the text of a decimal 0.d1 d2 .. 10^p, as each side writes it -/
def dgt (d : Nat → Nat) (n : Nat) (i : Int) : Nat := if 0 ≤ i ∧ i < n then 48 + d i.toNat else 48
def rng (g : Int → Nat) (a : Int) : Nat → List Nat
  | 0 => []
  | k + 1 => rng g a k ++ [g (a + k)]
theorem rng_len (g : Int → Nat) (a : Int) : ∀ k, (rng g a k).length = k
  | 0 => rfl
  | k + 1 => by show (rng g a k ++ [_]).length = _; rw [List.length_append, rng_len g a k]; rfl
theorem rng_add (g : Int → Nat) (a : Int) (j : Nat) : ∀ k, rng g a (j + k) = rng g a j ++ rng g (a + j) k
  | 0 => by simp [rng]
  | k + 1 => by
    show rng g a (j + k) ++ [g (a + ((j + k : Nat) : Int))] = rng g a j ++ (rng g (a + j) k ++ [g (a + j + k)])
    rw [rng_add g a j k, List.append_assoc, show a + ((j + k : Nat) : Int) = a + j + k by omega]
theorem rng_congr {g h : Int → Nat} {a : Int} : ∀ {k : Nat}, (∀ j : Nat, j < k → g (a + j) = h (a + j)) → rng g a k = rng h a k
  | 0, _ => rfl
  | k + 1, he => by
    show rng g a k ++ [_] = rng h a k ++ [_]
    rw [rng_congr (k := k) (fun j hj => he j (by omega)), he k (by omega)]
/-- an exponent's letters -/
def expT (z : Int) : List Nat := (if z < 0 then [45] else []) ++ (if 100 ≤ z.natAbs then [48 + z.natAbs / 100 % 10] else []) ++ (if 10 ≤ z.natAbs then [48 + z.natAbs / 10 % 10] else []) ++ [48 + z.natAbs % 10]
def clsT (d : Nat → Nat) (n : Nat) (p : Int) : List Nat :=
  if -2 ≤ p ∧ p ≤ 7 then rng (dgt d n) (min (p - 1) 0) (p - min (p - 1) 0).toNat ++ [46] ++ rng (dgt d n) p (max (n : Int) (p + 1) - p).toNat
  else rng (dgt d n) 0 1 ++ [46] ++ rng (dgt d n) 1 (max n 2 - 1) ++ [69] ++ expT (p - 1)
def refT (d : Nat → Nat) (n : Nat) (p : Int) : List Nat :=
  if -2 ≤ p ∧ p ≤ 7 then (if p < 1 then [48] else []) ++ rng (dgt d n) 0 p.toNat ++ [46] ++ rng (fun _ => 48) p (-p).toNat ++ rng (dgt d n) (max p 0) ((n : Int) - max p 0).toNat ++ (if (n : Int) ≤ max p 0 then [48] else [])
  else [dgt d n 0] ++ [46] ++ rng (dgt d n) 1 (n - 1) ++ (if n = 1 then [48] else []) ++ [69] ++ expT (p - 1)
theorem clsT_refT (d : Nat → Nat) {n : Nat} (hn : 0 < n) (p : Int) : clsT d n p = refT d n p := by
  unfold clsT refT
  split
  · rename_i h
    by_cases h1 : p < 1
    · obtain ⟨k, hk⟩ : ∃ k : Nat, p = -(k : Int) := ⟨(-p).toNat, by omega⟩
      have a1 : min (p - 1) 0 = p - 1 := by omega
      have a2 : (p - (p - 1)).toNat = 1 := by omega
      have a3 : (max (n : Int) (p + 1) - p).toNat = k + n := by omega
      have a4 : p.toNat = 0 := by omega
      have a5 : (-p).toNat = k := by omega
      have a6 : max p 0 = 0 := by omega
      have a7 : ((n : Int) - 0).toNat = n := by omega
      have a8 : ¬ (n : Int) ≤ 0 := by omega
      rw [a1, a2, a3, a4, a5, a6, a7, if_pos h1, if_neg a8, rng_add, show p + (k : Int) = 0 by omega]
      have b1 : rng (dgt d n) (p - 1) 1 = [48] := by
        show [] ++ [dgt d n (p - 1 + ((0 : Nat) : Int))] = _
        rw [show dgt d n (p - 1 + ((0 : Nat) : Int)) = 48 from if_neg (by omega)]
        rfl
      have b2 : rng (dgt d n) p k = rng (fun _ => 48) p k := rng_congr (fun j hj => if_neg (by omega))
      rw [b1, b2]
      simp [rng]
    · have a1 : min (p - 1) 0 = 0 := by omega
      have a2 : (p - 0).toNat = p.toNat := by omega
      have a5 : (-p).toNat = 0 := by omega
      have a6 : max p 0 = p := by omega
      rw [a1, a2, a5, a6, if_neg h1]
      by_cases h2 : (n : Int) ≤ p
      · have a3 : (max (n : Int) (p + 1) - p).toNat = 1 := by omega
        have a4 : ((n : Int) - p).toNat = 0 := by omega
        rw [a3, a4, if_pos h2]
        have b1 : rng (dgt d n) p 1 = [48] := by
          show [] ++ [dgt d n (p + ((0 : Nat) : Int))] = _
          rw [show dgt d n (p + ((0 : Nat) : Int)) = 48 from if_neg (by omega)]
          rfl
        rw [b1]
        simp [rng]
      · have a3 : (max (n : Int) (p + 1) - p).toNat = ((n : Int) - p).toNat := by omega
        rw [a3, if_neg h2]
        simp [rng]
  · have b0 : rng (dgt d n) 0 1 = [dgt d n 0] := rfl
    rw [b0]
    by_cases h1 : n = 1
    · subst h1
      rw [if_pos rfl]
      have b1 : rng (dgt d 1) 1 (max 1 2 - 1) = [48] := rfl
      rw [b1]
      simp [rng]
    · have a1 : max n 2 - 1 = n - 1 := by omega
      rw [a1, if_neg h1]
      simp
