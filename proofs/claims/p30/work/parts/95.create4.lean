/-! createLedger: its arguments -/
theorem in_0a {x y : Int32} (h : x < 1) : m_X6_in x 1 y = 0 := by
  unfold m_X6_in
  rw [if_pos h]
theorem in_0b {x y : Int32} (h : ¬ x ≤ y) : m_X6_in x 1 y = 0 := by
  unfold m_X6_in
  rw [if_pos (Int32.not_le.mp h), ite_self]
theorem in_1 {x y : Int32} (h : ¬ x < 1) (h2 : x ≤ y) : m_X6_in x 1 y = 1 := by
  unfold m_X6_in
  rw [if_neg h, if_neg (Int32.not_lt.mpr h2)]
theorem arg_1 {x : Int32} (h : ¬ x < 1) : ∃ k : Nat, 1 ≤ k ∧ k < 2147483648 ∧ x = nI k := by
  have h0 : ¬ x < 0 := fun q => h (by
    rw [Int32.lt_iff_toInt_lt] at q ⊢
    have e0 : (0 : Int32).toInt = 0 := rfl
    have e1 : (1 : Int32).toInt = 1 := rfl
    omega)
  obtain ⟨j, hj, rfl⟩ := nI_of h0
  refine ⟨j, ?_, hj, rfl⟩
  rcases Nat.eq_zero_or_pos j with hz | hz
  · exact absurd (by rw [hz]; decide) h
  · exact hz
theorem nI_le' {a b : Nat} (ha : a < 2147483648) (hb : b < 2147483648) (h : nI a ≤ nI b) : a ≤ b := Nat.le_of_not_lt fun q => nI_ge q ha h
