/-! undo -/
def cpy4 (p s : Nat → Int32) (k : Nat) : Nat → Int32 := fun i => if i < k then p i else s i
theorem cpy4_s {p s : Nat → Int32} {k : Nat} : upd (cpy4 p s k) k (p k) = cpy4 p s (k + 1) := by
  funext i
  by_cases hi : i = k
  · subst hi
    rw [upd_s]
    unfold cpy4
    rw [if_pos (by omega)]
  · rw [upd_n hi]
    unfold cpy4
    by_cases hq : i < k
    · rw [if_pos hq, if_pos (by omega)]
    · rw [if_neg hq, if_neg (by omega)]
theorem undo_loop {M : Mem} {n : Nat} (hn : n < 4) (h2 : gF M 3 2 = nI n) : ∀ (d k g : Nat), k + d = 3463 → d < g → m_X6_undo_L37 3 g (nI k) (sR 4 (cpy4 (pr M n) (gR M 4) k) M) = some (nI n, sR 4 (cpy4 (pr M n) (gR M 4) 3463) M) := by
  intro d
  induction d with
  | zero =>
    intro k g h1 h3
    obtain ⟨g, rfl⟩ : ∃ k, g = k + 1 := ⟨g - 1, by omega⟩
    rw [m_X6_undo_L37_s, Ln 3463, if_pos (nI_le (by omega) (by omega)), gF_sR, h2, show k = 3463 by omega]
  | succ d ih =>
    intro k g h1 h3
    obtain ⟨g, rfl⟩ : ∃ k, g = k + 1 := ⟨g - 1, by omega⟩
    rw [m_X6_undo_L37_s, Ln 3463, if_neg (nI_ge (by omega) (by omega)), gF_sR, h2, nI_mul, nI_add, ck_ix (by omega) (by omega), ck_ix (by omega) (by omega), cl_nI (by omega), aI_nI (by omega), gR_self, gR_ne (c := 4) (c' := 5) (by decide), sR_sR, show gR M 5 (3463 * n + k) = pr M n k from rfl, cpy4_s, nI_1]
    exact ih (k + 1) g (by omega) (by omega)
