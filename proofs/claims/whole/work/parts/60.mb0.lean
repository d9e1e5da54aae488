/-! Model: the buffer and the result as lists -/
def Bx (f : Nat → Int32) (L : List Nat) : Prop := L.length ≤ 64 ∧ (∀ i, i < L.length → f i = nI (L.getD i 0)) ∧ ∀ x ∈ L, x < 128
theorem Bx_nil (f : Nat → Int32) : Bx f [] := ⟨by decide, fun i h => absurd h (Nat.not_lt_zero i), fun x h => absurd h List.not_mem_nil⟩
theorem Bx_add {f : Nat → Int32} {L : List Nat} {x : Nat} (h : Bx f L) (hl : L.length < 64) (hx : x < 128) : Bx (upd f L.length (nI x)) (L ++ [x]) := by
  obtain ⟨h1, h2, h3⟩ := h
  refine ⟨by rw [List.length_append]; exact hl, fun i hi => ?_, fun y hy => ?_⟩
  · rw [List.length_append] at hi
    have hi : i < L.length + 1 := hi
    by_cases he : i = L.length
    · subst he; rw [pk_us]; simp
    · rw [pk_un he, h2 i (by omega)]
      congr 1
      rw [List.getD_eq_getElem?_getD, List.getD_eq_getElem?_getD, List.getElem?_append_left (by omega)]
  · rcases List.mem_append.mp hy with h | h
    · exact h3 y h
    · rw [List.mem_singleton.mp h]; exact hx
theorem Bx_copy {f f2 : Nat → Int32} {L : List Nat} (h : Bx f L) (h2 : ∀ j, j < L.length → f2 j = f j) : Bx f2 L := ⟨h.1, fun i hi => by rw [h2 i hi]; exact h.2.1 i hi, h.2.2⟩
theorem nar2 {f : Nat → Int32} {L : List Nat} (h : Bx f L) {i : Nat} (hi : i < L.length) : vp_nar .byte (f i) = f i := by
  rw [h.2.1 i hi]
  exact narb (getD_lt h.2.2 i)
