/-! the small methods of the class: plain values -/
theorem isIn_eq (x a b : Int32) (D : Dt) : f_X9_isIn x a b D = some (if a ≤ x ∧ x ≤ b then 1 else 0) := by
  simp only [f_X9_isIn]
  by_cases h1 : x < a
  · rw [if_pos h1, if_neg]
    intro h
    rw [Int32.lt_iff_toInt_lt] at h1
    rw [Int32.le_iff_toInt_le] at h
    omega
  · rw [if_neg h1]
    by_cases h2 : b < x
    · rw [if_pos h2, if_neg]
      intro h
      rw [Int32.lt_iff_toInt_lt] at h2
      have h3 := Int32.le_iff_toInt_le.mp h.2
      omega
    · rw [if_neg h2, if_pos]
      rw [Int32.lt_iff_toInt_lt] at h1 h2
      exact ⟨Int32.le_iff_toInt_le.mpr (by omega), Int32.le_iff_toInt_le.mpr (by omega)⟩
theorem in_eq (x a b : Int32) (D : Dt) : f_X10_in x a b D = some (if a ≤ x ∧ x ≤ b then 1 else 0) := isIn_eq x a b D
