/-! the invariant of the law's loop -/
abbrev pr (M : Mem) (j : Nat) : Nat → Int32 := fun k => gR M 5 (3463 * j + k)
def Num (G : Nat → Bool) (M : Mem) : Prop := ∀ l, l < 4 → gF M (64 + 27 + 5 * l) 0 = nI l ∧ ∀ i, i < 4 → G i = true → gF M (128 + 64 * i + 27 + 5 * l) 0 = nI l
theorem ck_1 {α : Type} {n : Nat} {x : Option α} (h : 1 < n) : ck (ix 1 n) x = x := ck_ix (k := 1) h (by omega)
theorem cl_1 : cl 1 = 1 := rfl
/-! arguments -/
theorem arg_of {x : Int32} {n : Nat} (hn : n ≤ 4096) : (∃ k, k < n ∧ x = nI k) ∨ (x < 0 ∨ nI n ≤ x) := by
  by_cases h0 : x < 0
  · exact Or.inr (Or.inl h0)
  · obtain ⟨j, hj, rfl⟩ := nI_of h0
    by_cases h : j < n
    · exact Or.inl ⟨j, h, rfl⟩
    · exact Or.inr (Or.inr (nI_le (by omega) (by omega)))
theorem in_ok {k n : Nat} (hk : k < n) (hn : n ≤ 4096) : m_X6_in (nI k) 0 (nI n - 1) = 1 := by
  unfold m_X6_in
  rw [if_neg (nI_pos (by omega)), nI_sub1 (by omega), if_neg (nI_nlt (by omega) (by omega))]
theorem toInt_sub1 {n : Nat} (hn : n < 2147483648) : (nI n - 1).toInt = (n : Int) - 1 := by
  rw [Int32.toInt_sub, nI_toInt hn, show (1 : Int32).toInt = 1 from rfl]
  exact Int.bmod_eq_of_le (by omega) (by omega)
theorem in_no {x : Int32} {n : Nat} (hn : n ≤ 4096) (h : x < 0 ∨ nI n ≤ x) : m_X6_in x 0 (nI n - 1) = 0 := by
  unfold m_X6_in
  by_cases h0 : x < 0
  · rw [if_pos h0]
  · rw [if_neg h0, if_pos]
    have h1 := h.resolve_left h0
    rw [Int32.le_iff_toInt_le, nI_toInt (by omega)] at h1
    rw [Int32.lt_iff_toInt_lt, toInt_sub1 (by omega)]
    omega
section ARG
variable {M : Mem} {nc lc n l : Nat} {x : Int32}
theorem isNode_ok (hI : Inv (gR M 4) nc lc) (hn : n < nc) : m_X6_isNode 3 (nI n) M = some 1 := by
  have := hI.1
  unfold m_X6_isNode
  rw [ck_0 (by omega), cl_0, hI.2.2.1, in_ok hn (by omega)]
  exact ck_t (Or.inr rfl)
theorem isNode_no (hI : Inv (gR M 4) nc lc) (hn : x < 0 ∨ nI nc ≤ x) : m_X6_isNode 3 x M = some 0 := by
  have := hI.1
  unfold m_X6_isNode
  rw [ck_0 (by omega), cl_0, hI.2.2.1, in_no (by omega) hn]
  exact ck_t (Or.inl rfl)
theorem isLed_ok (hI : Inv (gR M 4) nc lc) (hl : l < lc) : m_X6_isLedger 3 (nI l) M = some 1 := by
  have := hI.2.1
  unfold m_X6_isLedger
  rw [ck_1 (by omega), cl_1, hI.2.2.2.1, in_ok hl (by omega)]
  exact ck_t (Or.inr rfl)
theorem isLed_no (hI : Inv (gR M 4) nc lc) (hl : x < 0 ∨ nI lc ≤ x) : m_X6_isLedger 3 x M = some 0 := by
  have := hI.2.1
  unfold m_X6_isLedger
  rw [ck_1 (by omega), cl_1, hI.2.2.2.1, in_no (by omega) hl]
  exact ck_t (Or.inl rfl)
end ARG

/-! the shape of a case: the small method's answer against the reference's -/
section SHAPE
variable {G G1 : Nat → Bool} {M M1 M2 : Mem} {x : Int32}
end SHAPE
