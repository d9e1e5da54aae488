/-! Shortest: numbers for keep, start and find -/
theorem est_ok {l : Nat} (h : l < 2098) : 10 ^ (ptN l - 1) ≤ 2 ^ (l + 26) * 5 ^ 1100 ∧ 2 ^ (l + 27) * 5 ^ 1100 ≤ 10 ^ (ptN l + 1) ∧ 700 ≤ ptN l ∧ ptN l ≤ 1500 ∧ (ptN l : Int) = pt0 ((l : Int) - 1074) + 1100 ∧ 5 ^ (1100 - ptN l) * 2 ^ (max 55 (l + 27 - ptN l)) * 10 ^ 18 < 2 ^ 890 ∧ 5 ^ (ptN l - 1100) * 2 ^ (ptN l + 28 - l) * 10 ^ 2 < 2 ^ 890 ∧ l + 24 - ptN l ≤ 800 ∧ ptN l + 28 - l ≤ 830 := by
  have h1 := est_at h
  unfold estOk at h1
  simp only [Bool.and_eq_true, decide_eq_true_eq] at h1
  obtain ⟨⟨⟨⟨⟨⟨⟨⟨a1, a2⟩, a3⟩, a4⟩, a5⟩, a6⟩, a7⟩, a8⟩, a9⟩ := h1
  exact ⟨a1, a2, a3, a4, a5, a6, a7, a8, a9⟩
/-- the unit of x's last quarter, scaled by 10^1100 -/
def eU (qn : Nat) : Nat := 2 ^ (qn + 24) * 5 ^ 1100
theorem eU_pos (qn : Nat) : 0 < eU qn := Nat.mul_pos (Nat.pow_pos (by decide)) (Nat.pow_pos (by decide))
theorem x_lo {c B qn : Nat} (h1 : 2 ^ B ≤ c) : 2 ^ (qn + B + 26) * 5 ^ 1100 ≤ 4 * c * eU qn := by
  unfold eU
  have e1 : 2 ^ (qn + B + 26) = 4 * 2 ^ B * 2 ^ (qn + 24) := by
    rw [show 4 = 2 ^ 2 by decide, ← Nat.pow_add, ← Nat.pow_add]; congr 1; omega
  rw [e1, ← Nat.mul_assoc]
  exact Nat.mul_le_mul_right _ (Nat.mul_le_mul_right _ (Nat.mul_le_mul_left _ h1))
theorem x_hi {c B qn : Nat} (h2 : c < 2 ^ (B + 1)) : 4 * c * eU qn < 2 ^ (qn + B + 27) * 5 ^ 1100 := by
  unfold eU
  have e1 : 2 ^ (qn + B + 27) = 4 * 2 ^ (B + 1) * 2 ^ (qn + 24) := by
    rw [show 4 = 2 ^ 2 by decide, ← Nat.pow_add, ← Nat.pow_add]; congr 1; omega
  rw [e1, ← Nat.mul_assoc]
  exact Nat.mul_lt_mul_of_pos_right (Nat.mul_lt_mul_of_pos_right (Nat.mul_lt_mul_of_pos_left h2 (by decide)) (Nat.pow_pos (by decide))) (Nat.pow_pos (by decide))
/-- the sizes of the class's rows at the start -/
theorem start_sz {c B qn P : Nat} (hB : B ≤ 52) (h2 : c < 2 ^ (B + 1)) (hP : P = ptN (qn + B)) (hl : qn + B < 2098) : 4 * c * 2 ^ (qn + 24 - P) * 5 ^ (1100 - P) < 2 ^ 890 ∧ 5 ^ (1100 - P) * 2 ^ (qn + 24 - P) * 2 * 10 ^ 18 < 2 ^ 890 ∧ 1 * 2 ^ (P - (qn + 24)) * 5 ^ (P - 1100) * 10 ^ 2 < 2 ^ 890 ∧ qn + 24 - P ≤ 830 ∧ P - (qn + 24) ≤ 830 := by
  obtain ⟨a1, a2, a3, a4, a5, a6, a7, a8, a9⟩ := est_ok hl
  rw [← hP] at *
  have b1 : 4 * c * 2 ^ (qn + 24 - P) ≤ 2 ^ (max 55 (qn + B + 27 - P)) := by
    have : 2 ^ (B + 3 + (qn + 24 - P)) ≤ 2 ^ (max 55 (qn + B + 27 - P)) := Nat.pow_le_pow_right (by decide) (by omega)
    refine Nat.le_trans ?_ this
    rw [Nat.pow_add]
    refine Nat.mul_le_mul_right _ ?_
    have e : 2 ^ (B + 3) = 4 * 2 ^ (B + 1) := by rw [show 4 = 2 ^ 2 by decide, ← Nat.pow_add]; congr 1; omega
    omega
  have b2 : 2 ^ (qn + 24 - P) * 2 ≤ 2 ^ (max 55 (qn + B + 27 - P)) := by
    rw [← Nat.pow_succ]
    exact Nat.pow_le_pow_right (by decide) (by omega)
  have b3 : 2 ^ (P - (qn + 24)) ≤ 2 ^ (P + 28 - (qn + B)) := Nat.pow_le_pow_right (by decide) (by omega)
  refine ⟨?_, ?_, ?_, by omega, by omega⟩
  · refine Nat.lt_of_le_of_lt ?_ a6
    rw [Nat.mul_comm]
    exact Nat.le_trans (Nat.mul_le_mul_left _ b1) (Nat.le_mul_of_pos_right _ (by decide))
  · refine Nat.lt_of_le_of_lt ?_ a6
    rw [Nat.mul_assoc (5 ^ (1100 - P))]
    exact Nat.mul_le_mul_right _ (Nat.mul_le_mul_left _ b2)
  · refine Nat.lt_of_le_of_lt ?_ a7
    rw [Nat.one_mul, Nat.mul_comm (2 ^ (P - (qn + 24)))]
    exact Nat.mul_le_mul_right _ (Nat.mul_le_mul_left _ b3)
/-- what start leaves -/
def StOk (qn c : Nat) (cl : Bool) (W R B A : Q2) (P u w : Nat) : Prop := Nt W.1 W.2 w ∧ Nt R.1 R.2 (4 * c * u) ∧ Nt B.1 B.2 ((if cl then 1 else 2) * u) ∧ Nt A.1 A.2 (2 * u) ∧ 0 < w ∧ eU qn * w = u * 10 ^ P ∧ 4 * c * u < w ∧ w ≤ 10 * (4 * c * u) ∧ 700 ≤ P ∧ P ≤ 1501 ∧ w * 10 < 2 ^ 896 ∧ 2 * u * 10 ^ 18 < 2 ^ 896
theorem start_fin {c B qn P : Nat} {cl : Bool} {W R Bq A : Q2} (hB : B ≤ 52) (h1 : 2 ^ B ≤ c) (h2 : c < 2 ^ (B + 1)) (hP : P = ptN (qn + B)) (hl : qn + B < 2098) (nW : Nt W.1 W.2 (1 * 2 ^ (P - (qn + 24)) * 5 ^ (P - 1100))) (nR : Nt R.1 R.2 (4 * c * 2 ^ (qn + 24 - P) * 5 ^ (1100 - P))) (nB : Nt Bq.1 Bq.2 ((if cl then 1 else 2) * 2 ^ (qn + 24 - P) * 5 ^ (1100 - P))) (nA : Nt A.1 A.2 (2 * 2 ^ (qn + 24 - P) * 5 ^ (1100 - P))) :
    (4 * c * 2 ^ (qn + 24 - P) * 5 ^ (1100 - P) < 1 * 2 ^ (P - (qn + 24)) * 5 ^ (P - 1100) → StOk qn c cl W R Bq A P (5 ^ (1100 - P) * 2 ^ (qn + 24 - P)) (1 * 2 ^ (P - (qn + 24)) * 5 ^ (P - 1100))) ∧
    (¬ 4 * c * 2 ^ (qn + 24 - P) * 5 ^ (1100 - P) < 1 * 2 ^ (P - (qn + 24)) * 5 ^ (P - 1100) → ∀ W2 : Q2, Nt W2.1 W2.2 (1 * 2 ^ (P - (qn + 24)) * 5 ^ (P - 1100) * 10) → StOk qn c cl W2 R Bq A (P + 1) (5 ^ (1100 - P) * 2 ^ (qn + 24 - P)) (1 * 2 ^ (P - (qn + 24)) * 5 ^ (P - 1100) * 10)) := by
  obtain ⟨a1, a2, a3, a4, a5, a6, a7, a8, a9⟩ := est_ok hl
  obtain ⟨s1, s2, s3, s4, s5⟩ := start_sz hB h2 hP hl
  rw [← hP] at *
  have hu : eU qn * (1 * 2 ^ (P - (qn + 24)) * 5 ^ (P - 1100)) = 5 ^ (1100 - P) * 2 ^ (qn + 24 - P) * 10 ^ P := by
    unfold eU
    rw [Nat.one_mul, Nat.mul_comm (2 ^ (P - (qn + 24)))]
    exact unit_eq (qn + 24) 1100 P
  have hw : 0 < 1 * 2 ^ (P - (qn + 24)) * 5 ^ (P - 1100) := Nat.mul_pos (Nat.mul_pos (by decide) (Nat.pow_pos (by decide))) (Nat.pow_pos (by decide))
  have lo := start_lo (c := c) hw hu (by omega) (Nat.le_trans a1 (x_lo h1))
  have hi := start_hi (c := c) hw hu (Nat.lt_of_lt_of_le (x_hi h2) a2)
  have hk : ∀ k, k * 2 ^ (qn + 24 - P) * 5 ^ (1100 - P) = k * (5 ^ (1100 - P) * 2 ^ (qn + 24 - P)) := fun k => by rw [Nat.mul_assoc, Nat.mul_comm (2 ^ (qn + 24 - P))]
  rw [hk] at nR nB nA
  rw [hk]
  generalize 1 * 2 ^ (P - (qn + 24)) * 5 ^ (P - 1100) = w at *
  generalize 5 ^ (1100 - P) * 2 ^ (qn + 24 - P) = u at *
  have hb : (2 : Nat) ^ 890 ≤ 2 ^ 896 := Nat.pow_le_pow_right (by decide) (by decide)
  have f2 : w * 10 * 10 < 2 ^ 896 := by
    rw [Nat.mul_assoc]
    exact Nat.lt_of_lt_of_le s3 hb
  have f1 : w * 10 < 2 ^ 896 := Nat.lt_of_le_of_lt (Nat.le_mul_of_pos_right _ (by decide)) f2
  have f3 : 2 * u * 10 ^ 18 < 2 ^ 896 := by
    rw [Nat.mul_comm 2 u]
    exact Nat.lt_of_lt_of_le s2 hb
  clear s1 s2 s3 hb a6 a7 a1 a2
  constructor
  · intro hlt
    exact ⟨nW, nR, nB, nA, hw, hu, hlt, lo, a3, Nat.le_succ_of_le a4, f1, f3⟩
  · intro hge W2 nW2
    have hu2 : eU qn * (w * 10) = u * 10 ^ (P + 1) := by rw [Nat.pow_succ, ← Nat.mul_assoc, hu, Nat.mul_assoc]
    exact ⟨nW2, nR, nB, nA, Nat.mul_pos hw (by decide), hu2, by rw [Nat.mul_comm w 10]; exact hi, by rw [Nat.mul_comm w 10]; exact Nat.mul_le_mul_left 10 (Nat.le_of_not_lt hge), Nat.le_succ_of_le a3, Nat.succ_le_succ a4, f2, f3⟩
/-- the decimal that both sides find -/
def Dec (qn c : Nat) (cl : Bool) (g : Nat → Nat) (n : Nat) (z : Int) : Prop := ∃ P M v, ResAt (eU qn) c cl P M v ∧ Can g n ∧ (n : Int) ≤ z + 1100 ∧ dv g n * 10 ^ (z + 1100 - n).toNat = v
theorem Dec.unique {qn c : Nat} {cl : Bool} {g g' : Nat → Nat} {n n' : Nat} {z z' : Int} (h : Dec qn c cl g n z) (h' : Dec qn c cl g' n' z') : n = n' ∧ z = z' ∧ ∀ i, i < n → g i = g' i := by
  obtain ⟨P, M, v, h1, h2, h3, h4⟩ := h
  obtain ⟨P', M', v', h1', h2', h3', h4'⟩ := h'
  have hv := (res_unique h1 h1').2.2
  rw [← h4, ← h4'] at hv
  obtain ⟨e1, e2, e3⟩ := can_unique h2 h2' hv
  subst e2
  exact ⟨rfl, by omega, e3⟩
/-- what keep leaves of a number -/
theorem keep_dec {qn c P M num lf z n : Nat} {cl : Bool} (hr : ResAt (eU qn) c cl P M (num * sU P M)) (h1 : lf * 10 ^ z = num) (h2 : lf % 10 ≠ 0) (h3 : 0 < n) (h4 : 10 ^ (n - 1) ≤ lf) (h5 : lf < 10 ^ n) : Dec qn c cl (dgs lf n) n ((P : Int) - 1100 - M + z + n) := by
  obtain ⟨c1, c2⟩ := can_dgs h5 h4 h3 h2
  have hM : M ≤ P := by obtain ⟨_, _, a, _, b, _⟩ := hr; omega
  refine ⟨P, M, num * sU P M, hr, c1, by omega, ?_⟩
  rw [c2, ← h1, show ((P : Int) - 1100 - M + z + n + 1100 - n).toNat = z + (P - M) by omega, Nat.pow_add, ← Nat.mul_assoc]
  rfl
theorem strip_ok {lf z num : Nat} (h : lf * 10 ^ z = num) (h0 : lf % 10 = 0) : lf / 10 * 10 ^ (z + 1) = num := by
  rw [Nat.pow_succ, Nat.mul_comm (10 ^ z), ← Nat.mul_assoc, show lf / 10 * 10 = lf by omega]
  exact h
theorem strip_end {lf num : Nat} (h : lf * 10 ^ 17 = num) (hp : 0 < num) (hle : num ≤ 10 ^ 17) : lf % 10 ≠ 0 := by omega
theorem sub1 (n : Nat) : nI n - nI 1 = iI ((n : Nat) - 1 : Int) := by rw [← iI_nat, ← iI_nat, iI_sub]; rfl
