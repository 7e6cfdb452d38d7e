/-! deliver -/
theorem proc_none {M : Mem} {B nc lc n : Nat} {r : Nat → Int32} (hR : RC B r M) (hI : Inv r nc lc) (hn : n < nc) (hw : r (11 + n) = 0) : m_X3_processOldest B (nI n) M = some (-1, M) := by
  have h3 : gF M (B + 3 + 3 * n) 3 = 0 := (rc_n hR hI hn).2.2.2.1.trans hw
  unfold m_X3_processOldest m_X1_takeOldest
  rw [node_ok hR hI hn, bind_s, on_sm, h3, if_pos (show (0 : Int32) < 1 by decide), bind_s]
  exact if_pos rfl
theorem wait_of {nc lc n : Nat} {r : Nat → Int32} (hI : Inv r nc lc) (hn : n < nc) : r (11 + n) = 0 ∨ ∃ w, w < 100 ∧ r (11 + n) = nI (w + 1) := by
  obtain ⟨-, ⟨w, hw, k1, -, -⟩, -⟩ := inv_n hI hn
  rcases Nat.eq_zero_or_pos w with hz | hz
  · exact Or.inl (by rw [k1, hz]; rfl)
  · exact Or.inr ⟨w - 1, by omega, by rw [k1, Nat.sub_add_cancel hz]⟩
