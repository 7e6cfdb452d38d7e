/-! what read needs -/
theorem rRd_of {r : Nat → Int32} {nc l : Nat} (hL : LI r nc l) : ∃ k, k ≤ 40 ∧ rRd r l = nI k - 1 := by
  have h40 := hL.2.2.2.2.2.1
  unfold rRd
  by_cases h0 : vf r l 3 = 0
  · rw [if_pos h0]
    refine ⟨rCf r l, ?_, rfl⟩
    have := (lead_le (q := fun e => decide (vf r l 2 ≤ pc (vf r l (47 + e)))) (vf r l 4) 0).2
    unfold rCf
    omega
  · rw [if_neg h0]
    by_cases h2 : vf r l 3 = 2
    · rw [if_pos h2]
      exact hL.2.2.2.2.2.2.2.2.2.2.2.2.2.2.2
    · rw [if_neg h2]
      exact ⟨0, by omega, rfl⟩
theorem rRd_lt {r : Nat → Int32} {nc l e : Nat} (hL : LI r nc l) (he : e < 2147483648) (h : nI e ≤ rRd r l) : e < 40 := by
  obtain ⟨k, hk, e1⟩ := rRd_of hL
  rw [e1, Int32.le_iff_toInt_le, nI_toInt he, toInt_sub1 (by omega)] at h
  omega
abbrev frg (r : Nat → Int32) (l e : Nat) : Nat := rFr (fun f => vf r l (87 + f)) e (vf r l 6)
theorem source_ok {M : Mem} {nc lc l e : Nat} (hI : Inv (gR M 4) nc lc) (hl : l < lc) (he : e < 40) : m_X6_source 3 (nI l) (nI e) M = some (on1 (rSrc (gR M 4) l e (frg (gR M 4) l e) (vf (gR M 4) l 1) 0)) := by
  have hL := inv_l hI hl
  have h4 := hI.2.1
  have hF := hL.2.2.2.2.2.2.1
  have hW := hL.2.2.1
  have hE := hL.2.1
  unfold m_X6_source
  rw [fragOf_ok (by omega) hL.1 hF.1 hF.2 hL.2.2.2.2.2.2.2.1 hL.2.2.2.2.2.2.2.2.1 (by omega), bind_s]
  exact src_loop hI hl (rFr_lt (by omega)) he (vf (gR M 4) l 1) 0 fuel (by omega) (by unfold fuel; omega)
theorem first_ok {M : Mem} {B a nc lc l e : Nat} {r : Nat → Int32} (hR : RC B r M) (hI : Inv r nc lc) (hl : l < lc) (hC : CL M a r l) (he : e < 40) : m_X3_firstCopy B a (nI e) M = some (cpy1 r l e (rSrc r l e (frg r l e) (vf r l 1) 0)) := by
  have hL := inv_l hI hl
  have hF := hL.2.2.2.2.2.2.1
  have hW := hL.2.2.1
  have hE := hL.2.1
  unfold m_X3_firstCopy
  rw [cfrag_ok hC hL (by omega), bind_s]
  exact first_loop hR hI hl hC (rFr_lt (by omega)) he (vf r l 1) 0 fuel (by omega) (by unfold fuel; omega)
