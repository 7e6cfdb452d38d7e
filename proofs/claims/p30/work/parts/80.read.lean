theorem rSrc_some {r : Nat → Int32} {l e f n : Nat} : ∀ (d i : Nat), rSrc r l e f d i = some n → r (3 + n) = 1 ∧ r (819 + 160 * n + 40 * l + e) ≠ 0 ∧ ∃ j, n = mbf r l f ((e + j) % vf r l 0) := by
  intro d
  induction d with
  | zero => intro i h; cases h
  | succ d ih =>
    intro i h
    rw [rSrc_s] at h
    split at h
    · rename_i hq
      cases h
      exact ⟨hq.1, hq.2, i, rfl⟩
    · exact ih (i + 1) h
