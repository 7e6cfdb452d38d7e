/-! methods that answer a node or a ledger: of what kind its code is -/
theorem t_X3_node {G : Nat → Bool} {a0 q : Nat} {x1 : Int32} {M : Mem} (h0 : TT G 2 a0) (hm : m_X3_node a0 x1 M = some (some q)) : TT G 1 q := by
  unfold m_X3_node at hm
  by_cases h1 : x1 < 0
  · rw [if_pos h1] at hm; cases hm
  · rw [if_neg h1] at hm
    by_cases h2 : gF M a0 0 ≤ x1
    · rw [if_pos h2] at hm; cases hm
    · rw [if_neg h2] at hm
      by_cases h3 : x1 < 8
      · rw [if_pos h3] at hm
        obtain ⟨h4, hm⟩ := ck_some hm
        cases hm
        exact ns_at (st_n h0) h4
      · rw [if_neg h3] at hm; cases hm
theorem t_X3_ledger {G : Nat → Bool} {a0 q : Nat} {x1 : Int32} {M : Mem} (h0 : TT G 2 a0) (hm : m_X3_ledger a0 x1 M = some (some q)) : TT G 0 q := by
  unfold m_X3_ledger at hm
  by_cases h1 : x1 < 0
  · rw [if_pos h1] at hm; cases hm
  · rw [if_neg h1] at hm
    by_cases h2 : gF M a0 1 ≤ x1
    · rw [if_pos h2] at hm; cases hm
    · rw [if_neg h2] at hm
      by_cases h3 : x1 < 4
      · rw [if_pos h3] at hm
        obtain ⟨h4, hm⟩ := ck_some hm
        cases hm
        exact ls_at (st_l h0) h4
      · rw [if_neg h3] at hm; cases hm
