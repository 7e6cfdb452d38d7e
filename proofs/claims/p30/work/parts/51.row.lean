/-! the reference's row: what its small methods read -/
section RD
variable {M : Mem} {l w n e f p k : Nat}
theorem of_ok (h : 2131 + 333 * l + w < 3463) : m_X6_of 3 (nI l) (nI w) M = some (gR M 4 (2131 + 333 * l + w)) := by
  unfold m_X6_of
  rw [Ln 2131, Ln 333, nI_mul, nI_add, nI_add, ck_ix h (by omega), cl_nI (by omega)]
theorem set_ok {v : Int32} (h : 2131 + 333 * l + w < 3463) : m_X6_set 3 (nI l) (nI w) v M = some (sR 4 (upd (gR M 4) (2131 + 333 * l + w) v) M) := by
  unfold m_X6_set
  rw [Ln 2131, Ln 333, nI_mul, nI_add, nI_add, ck_ix h (by omega), aI_nI (by omega)]
theorem isUp_ok (h : 3 + n < 3463) : m_X6_isUp 3 (nI n) M = some (if gR M 4 (3 + n) = 1 then 1 else 0) := by
  unfold m_X6_isUp
  rw [Ln 3, nI_add, ck_ix h (by omega), cl_nI (by omega)]
  split <;> rfl
theorem at_ok : m_X6_storedAt (nI n) (nI l) (nI e) = nI (819 + 160 * n + 40 * l + e) := by
  unfold m_X6_storedAt
  rw [Ln 819, Ln 160, Ln 40, nI_mul, nI_mul, nI_add, nI_add, nI_add]
theorem stores_ok (h : 819 + 160 * n + 40 * l + e < 3463) : m_X6_stores 3 (nI n) (nI l) (nI e) M = some (if gR M 4 (819 + 160 * n + 40 * l + e) = 0 then 0 else 1) := by
  unfold m_X6_stores
  rw [at_ok, ck_ix h (by omega), cl_nI (by omega)]
  split <;> rfl
theorem store_ok {v c : Int32} (h : 819 + 160 * n + 40 * l + e < 3463) : m_X6_store 3 (nI n) (nI l) (nI e) v c M = some (sR 4 (upd (gR M 4) (819 + 160 * n + 40 * l + e) (64 * (v + 1) + c + 1)) M) := by
  unfold m_X6_store
  rw [at_ok, ck_ix h (by omega), aI_nI (by omega)]
theorem payloadAt_ok (h : 819 + 160 * n + 40 * l + e < 3463) : m_X6_payloadAt 3 (nI n) (nI l) (nI e) M = some (gR M 4 (819 + 160 * n + 40 * l + e) / 64 - 1) := by
  unfold m_X6_payloadAt
  rw [at_ok, ck_ix h (by omega), cl_nI (by omega)]
theorem confirmedAt_ok (h : 819 + 160 * n + 40 * l + e < 3463) : m_X6_confirmedAt 3 (nI n) (nI l) (nI e) M = some (gR M 4 (819 + 160 * n + 40 * l + e) - gR M 4 (819 + 160 * n + 40 * l + e) / 64 * 64 - 1) := by
  unfold m_X6_confirmedAt
  rw [at_ok, ck_ix h (by omega), cl_nI (by omega)]
/-- weight: how many of n's cells hold something, among the first k -/
def rW (r : Nat → Int32) (n : Nat) : Nat → Nat
  | 0 => 0
  | k + 1 => rW r n k + (if r (819 + 160 * n + k) = 0 then 0 else 1)
theorem rW_le {r : Nat → Int32} {n k : Nat} : rW r n k ≤ k := by
  induction k with
  | zero => exact Nat.le_refl 0
  | succ k ih =>
    unfold rW
    split <;> omega
theorem weight_loop (hn : n < 8) : ∀ (d k f : Nat), k + d = 160 → d < f → m_X6_weightOf_L4 3 (nI n) M f (nI (rW (gR M 4) n k)) (nI k) = some (nI (rW (gR M 4) n 160)) := by
  intro d
  induction d with
  | zero =>
    intro k f h hf
    obtain ⟨f, rfl⟩ : ∃ g, f = g + 1 := ⟨f - 1, by omega⟩
    obtain rfl : k = 160 := by omega
    rw [m_X6_weightOf_L4_s, Ln 160, if_pos (nI_le (Nat.le_refl _) (by omega))]
  | succ d ih =>
    intro k f h hf
    obtain ⟨f, rfl⟩ : ∃ g, f = g + 1 := ⟨f - 1, by omega⟩
    rw [m_X6_weightOf_L4_s, Ln 160, Ln 819, if_neg (nI_ge (by omega) (by omega)), nI_mul, nI_add, nI_add, ck_ix (by omega) (by omega), cl_nI (by omega)]
    have h1 := ih (k + 1) f (by omega) (by omega)
    unfold rW at h1
    split
    · rename_i h0
      rw [if_pos h0] at h1
      rw [Ln 0, Ln 1, nI_add, nI_add]
      exact h1
    · rename_i h0
      rw [if_neg h0] at h1
      rw [Ln 1, nI_add, nI_add]
      exact h1
theorem weightOf_ok (hn : n < 8) : m_X6_weightOf 3 (nI n) M = some (nI (rW (gR M 4) n 160)) := weight_loop hn 160 0 fuel rfl (by unfold fuel; omega)
theorem memberOf_ok (h : 2131 + 333 * l + (128 + 5 * f + p) < 3463) : m_X6_memberOf 3 (nI l) (nI f) (nI p) M = some (gR M 4 (2131 + 333 * l + (128 + 5 * f + p))) := by
  unfold m_X6_memberOf
  rw [Ln 128, Ln 5, nI_mul, nI_add, nI_add, of_ok h]
  rfl
theorem writer_ok {E i : Nat} (hE : gR M 4 (2131 + 333 * l) = nI E) (h0 : 0 < E) (h5 : E ≤ 5) (hl : l < 4) (hf : f < 41) (he : e < 1000) (hi : i < 1000) : m_X6_writer 3 (nI l) (nI f) (nI e) (nI i) M = some (gR M 4 (2131 + 333 * l + (128 + 5 * f + (e + i) % E))) := by
  have hm : (e + i) % E < E := Nat.mod_lt _ h0
  unfold m_X6_writer
  rw [Ln 0, of_ok (by omega), bind_s, Nat.add_zero, hE, ck_t (nI_ne (by omega) (by omega) (by omega)), nI_add, nI_rem (by omega) (by omega), memberOf_ok (by omega)]
  rfl
end RD
