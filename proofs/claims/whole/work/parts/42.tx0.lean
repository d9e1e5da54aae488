/-! ShortestPrinter.Text: its letters as a list -/
abbrev wT (cB : ClassId) (h hL : Nat) (f : Nat → Int32) (n : Nat) : va_W := [(h, .inr (2, [.ref hL, .int (nI n)])), (hL, .inl (cB, 24, .inl f))]
def Tx (f : Nat → Int32) (L : List Nat) : Prop := L.length ≤ 24 ∧ (∀ i, i < L.length → f i = nI (L.getD i 0)) ∧ ∀ x ∈ L, x < 128
theorem Tx_nil (f : Nat → Int32) : Tx f [] := ⟨by decide, fun i h => absurd h (Nat.not_lt_zero i), fun x h => absurd h List.not_mem_nil⟩
theorem Tx_add {f : Nat → Int32} {L : List Nat} {x : Nat} (h : Tx f L) (hl : L.length < 24) (hx : x < 128) : Tx (upd f L.length (nI x)) (L ++ [x]) := by
  obtain ⟨h1, h2, h3⟩ := h
  refine ⟨by rw [List.length_append]; exact hl, fun i hi => ?_, fun y hy => ?_⟩
  · rw [List.length_append] at hi
    have hi : i < L.length + 1 := hi
    by_cases he : i = L.length
    · subst he; rw [pk_us]; simp
    · rw [pk_un he, h2 i (by omega)]
      congr 1
      rw [List.getD_eq_getElem?_getD, List.getD_eq_getElem?_getD, List.getElem?_append_left (by omega)]
  · rcases List.mem_append.mp hy with h | h
    · exact h3 y h
    · rw [List.mem_singleton.mp h]; exact hx
theorem len1 (L : List Nat) (x : Nat) : (L ++ [x]).length = L.length + 1 := List.length_append
theorem nar_byte {x : Nat} (h : x < 128) : (nI x).toInt8.toInt32 = nI x := by
  have : ∀ x, x < 128 → (nI x).toInt8.toInt32 = nI x := by decide +kernel
  exact this x h
theorem narb {x : Nat} (h : x < 128) : vp_nar .byte (nI x) = nI x := by rw [vp_nar_byte]; exact nar_byte h
/-- the first letters of a text -/
def pre (g : Nat → Nat) : Nat → List Nat
  | 0 => []
  | k + 1 => pre g k ++ [g k]
theorem pre_len (g : Nat → Nat) : ∀ n, (pre g n).length = n
  | 0 => rfl
  | n + 1 => by show (pre g n ++ [g n]).length = _; rw [len1, pre_len g n]
def word8 (L : List Nat) (i : Nat) : Nat → Nat
  | 0 => 0
  | k + 1 => word8 L i k * 256 + L.getD (i + k) 0
theorem getD_lt {L : List Nat} (h : ∀ x ∈ L, x < 128) (i : Nat) : L.getD i 0 < 128 := by
  by_cases hi : i < L.length
  · have : L.getD i 0 = L[i] := by simp [hi]
    rw [this]; exact h _ (List.getElem_mem hi)
  · have : L.getD i 0 = 0 := by simp [show L.length ≤ i by omega]
    rw [this]; decide
theorem getD_ge {L : List Nat} {i : Nat} (h : L.length ≤ i) : L.getD i 0 = 0 := by simp [h]
theorem abs_i {z : Int} (h1 : -2 ^ 30 < z) (h2 : z < 2 ^ 30) : (if 0 ≤ iI z then iI z else 0 - iI z) = nI z.natAbs := by
  rw [show (0 : Int32) = iI 0 from rfl]
  by_cases h : 0 ≤ z
  · rw [if_pos ((iI_le (a := 0) (by decide) (by decide) (by omega) (by omega)).mpr h), ← iI_nat]
    congr 1; omega
  · rw [if_neg (fun h3 => h ((iI_le (a := 0) (by decide) (by decide) (by omega) (by omega)).mp h3)), ← iI_nat, iI_sub]
    congr 1; omega
