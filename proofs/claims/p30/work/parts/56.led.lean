/-! what the class's ledger answers, by the row -/
section LED
variable {M : Mem} {a l nc e f p i : Nat} {r : Nat → Int32}
theorem startOf_ok (hC : CL M a r l) (hI : LI r nc l) (hf : f < vf r l 6) : m_X0_startOf a (nI f) M = some (nI (vf r l (87 + f))) := by
  obtain ⟨hN, -, -, -, -, -, ⟨-, hF⟩, -⟩ := hI
  obtain ⟨-, -, -, -, -, -, -, -, -, -, hs, -⟩ := hC
  unfold m_X0_startOf
  rw [if_neg (nI_pos (by omega)), Ln 41, if_pos (nI_lt (by omega) (by omega)), ck_ix (by omega) (by omega), cl_nI (by omega), hs f hf (by omega), hN (87 + f) (by omega) (by omega)]
theorem cfrag_loop (hC : CL M a r l) (hI : LI r nc l) (he : e < 2147483648) : ∀ (d k g : Nat), 1 ≤ k → k + d = vf r l 6 → d < g → m_X0_fragmentOf_L4 a (nI e) M g (nI (rFr (fun f => vf r l (87 + f)) e k)) (nI k) = some (nI (rFr (fun f => vf r l (87 + f)) e (vf r l 6))) := by
  have h7 : gF M a 7 = nI (vf r l 6) := by
    rw [hC.2.2.2.2.2.2.2.1, hI.1 6 (by omega) (by omega)]
  have h41 : vf r l 6 ≤ 41 := hI.2.2.2.2.2.2.1.2
  intro d
  induction d with
  | zero =>
    intro k g h0 h1 h2
    obtain ⟨g, rfl⟩ : ∃ k, g = k + 1 := ⟨g - 1, by omega⟩
    rw [m_X0_fragmentOf_L4_s, h7, if_pos (nI_le (by omega) (by omega)), show k = vf r l 6 by omega]
  | succ d ih =>
    intro k g h0 h1 h2
    obtain ⟨g, rfl⟩ : ∃ k, g = k + 1 := ⟨g - 1, by omega⟩
    have hi := ih (k + 1) g (by omega) (by omega) (by omega)
    rw [m_X0_fragmentOf_L4_s, h7, if_neg (nI_ge (by omega) (by omega)), startOf_ok hC hI (by omega), bind_s, nI_1]
    rw [show rFr (fun f => vf r l (87 + f)) e (k + 1) = if vf r l (87 + k) ≤ e then k else rFr (fun f => vf r l (87 + f)) e k from rfl] at hi
    by_cases hq : vf r l (87 + k) ≤ e
    · rw [if_pos hq] at hi
      rw [if_neg (nI_nlt hq he)]
      exact hi
    · rw [if_neg hq] at hi
      rw [if_pos (nI_lt (Nat.lt_of_not_le hq) cl_lt)]
      exact hi
theorem cfrag_ok (hC : CL M a r l) (hI : LI r nc l) (he : e < 2147483648) : m_X0_fragmentOf a (nI e) M = some (nI (rFr (fun f => vf r l (87 + f)) e (vf r l 6))) := by
  have h := cfrag_loop hC hI he (vf r l 6 - 1) 1 fuel (Nat.le_refl _) (by have := hI.2.2.2.2.2.2.1.1; omega) (by have := hI.2.2.2.2.2.2.1.2; unfold fuel; omega)
  have h1 : rFr (fun f => vf r l (87 + f)) e 1 = 0 := by unfold rFr; split <;> rfl
  rw [h1] at h
  exact h
theorem place_ok (hf : f < 41) (hp : p < 5) : m_X0_placeOf (nI f) (nI p) = nI (5 * f + p) := by
  unfold m_X0_placeOf
  rw [if_neg (nI_pos (by omega)), Ln 41, if_neg (nI_ge (by omega) (by omega)), if_neg (nI_pos (by omega)), Ln 5, if_neg (nI_ge (by omega) (by omega))]
  unfold m_X0_placeOf_b24
  rw [if_neg (by decide), Ln 5, nI_mul, nI_add, Nat.mul_comm]
theorem nodeAt_ok (hC : CL M a r l) (hI : LI r nc l) (hf : f < vf r l 6) (hp : p < vf r l 0) : m_X0_nodeAt a (nI f) (nI p) M = some (nI (mbf r l f p)) := by
  obtain ⟨hN, ⟨-, hE⟩, -, -, -, -, ⟨-, hF⟩, -⟩ := hI
  obtain ⟨-, -, -, -, -, -, -, -, -, -, -, hs⟩ := hC
  unfold m_X0_nodeAt
  rw [place_ok (by omega) (by omega), if_neg (nI_pos (by omega)), Ln 205, if_pos (nI_lt (by omega) (by omega)), ck_ix (by omega) (by omega), cl_nI (by omega), hs f p hf hp (by omega) (by omega), hN (128 + 5 * f + p) (by omega) (by omega)]
theorem wsn_ok (hC : CL M a r l) (hI : LI r nc l) (hf : f < vf r l 6) (he : e < 1000) (hi : i < 1000) : m_X0_writeSetNode a (nI f) (nI e) (nI i) M = some (nI (mbf r l f ((e + i) % vf r l 0))) := by
  have hE := hI.2.1
  have h1 : gF M a 1 = nI (vf r l 0) := by rw [hC.2.1, hI.1 0 (by omega) (by omega)]
  have hm : (e + i) % vf r l 0 < vf r l 0 := Nat.mod_lt _ (by omega)
  unfold m_X0_writeSetNode
  rw [h1, if_neg (show ¬ nI (vf r l 0) < 1 from nI_nlt (a := vf r l 0) (b := 1) (by omega) (by omega)), if_neg (nI_pos (by omega)), if_pos (nI_pos' (by omega)), ck_t (nI_ne0 (by omega) (by omega)), nI_add, nI_rem (by omega) (by omega), nodeAt_ok hC hI hf hm]
  rfl
theorem maskOf_ok {k : Nat} (h : k < 8) : m_X0_maskOf (nI k) = nI (2 ^ k) := by
  unfold m_X0_maskOf
  rw [if_pos (nI_pos' (by omega)), shl1 h]
/-- the mask of the write set -/
abbrev wsM (r : Nat → Int32) (l f e : Nat) : Nat := orB (fun i => mbf r l f ((e + i) % vf r l 0)) (vf r l 1)
theorem mb8 (hI : LI r nc l) (hn : nc ≤ 8) (hf : f < vf r l 6) (hp : p < vf r l 0) : mbf r l f p < 8 := Nat.lt_of_lt_of_le (hI.2.2.2.2.2.2.2.2.2.2.1 f p hf hp) hn
theorem wsM_loop (hC : CL M a r l) (hI : LI r nc l) (hn : nc ≤ 8) (hf : f < vf r l 6) (he : e < 1000) : ∀ (d k g : Nat), k + d = vf r l 1 → d < g → m_X0_writeSetMask_L5 a (nI f) (nI e) M g (nI (orB (fun i => mbf r l f ((e + i) % vf r l 0)) k)) (nI k) = some (nI (wsM r l f e)) := by
  have hE := hI.2.1
  have hW := hI.2.2.1
  have h2 : gF M a 2 = nI (vf r l 1) := by rw [hC.2.2.1, hI.1 1 (by omega) (by omega)]
  intro d
  induction d with
  | zero =>
    intro k g h0 h1
    obtain ⟨g, rfl⟩ : ∃ k, g = k + 1 := ⟨g - 1, by omega⟩
    rw [m_X0_writeSetMask_L5_s, h2, if_pos (nI_le (by omega) (by omega)), show k = vf r l 1 by omega]
  | succ d ih =>
    intro k g h0 h1
    obtain ⟨g, rfl⟩ : ∃ k, g = k + 1 := ⟨g - 1, by omega⟩
    rw [m_X0_writeSetMask_L5_s, h2, if_neg (nI_ge (by omega) (by omega)), wsn_ok hC hI hf he (by omega), bind_s, maskOf_ok (mb8 hI hn hf (Nat.mod_lt _ (by omega))), or_nI, nI_1]
    exact ih (k + 1) g (by omega) (by omega)
theorem wsM_ok (hC : CL M a r l) (hI : LI r nc l) (hn : nc ≤ 8) (hf : f < vf r l 6) (he : e < 1000) : m_X0_writeSetMask a (nI f) (nI e) M = some (nI (wsM r l f e)) := wsM_loop hC hI hn hf he (vf r l 1) 0 fuel (by omega) (by have := hI.2.2.1; have := hI.2.1; unfold fuel; omega)
theorem ensM_loop (hC : CL M a r l) (hI : LI r nc l) (hn : nc ≤ 8) (hf : f < vf r l 6) : ∀ (d k g : Nat), k + d = vf r l 0 → d < g → m_X0_ensembleMask_L4 a (nI f) M g (nI (orB (mbf r l f) k)) (nI k) = some (nI (orB (mbf r l f) (vf r l 0))) := by
  have hE := hI.2.1
  have h2 : gF M a 1 = nI (vf r l 0) := by rw [hC.2.1, hI.1 0 (by omega) (by omega)]
  intro d
  induction d with
  | zero =>
    intro k g h0 h1
    obtain ⟨g, rfl⟩ : ∃ k, g = k + 1 := ⟨g - 1, by omega⟩
    rw [m_X0_ensembleMask_L4_s, h2, if_pos (nI_le (by omega) (by omega)), show k = vf r l 0 by omega]
  | succ d ih =>
    intro k g h0 h1
    obtain ⟨g, rfl⟩ : ∃ k, g = k + 1 := ⟨g - 1, by omega⟩
    rw [m_X0_ensembleMask_L4_s, h2, if_neg (nI_ge (by omega) (by omega)), nodeAt_ok hC hI hf (by omega), bind_s, maskOf_ok (mb8 hI hn hf (by omega)), or_nI, nI_1]
    exact ih (k + 1) g (by omega) (by omega)
theorem ensM_ok (hC : CL M a r l) (hI : LI r nc l) (hn : nc ≤ 8) (hf : f < vf r l 6) : m_X0_ensembleMask a (nI f) M = some (nI (orB (mbf r l f) (vf r l 0))) := ensM_loop hC hI hn hf (vf r l 0) 0 fuel (by omega) (by have := hI.2.1; unfold fuel; omega)
theorem cack_ok (hC : CL M a r l) (hI : LI r nc l) (he : e < vf r l 4) : m_X0_countAcknowledgers a (nI e) M = some (nI (pc (vf r l (47 + e)))) := by
  have h40 := hI.2.2.2.2.2.1
  have hk := hI.2.2.2.2.2.2.2.2.2.2.2.2.1 e he
  obtain ⟨-, -, -, -, -, -, -, -, -, hs, -⟩ := hC
  unfold m_X0_countAcknowledgers
  rw [if_neg (nI_pos (by omega)), Ln 40, if_pos (nI_lt (by omega) (by omega)), ck_ix (by omega) (by omega), cl_nI (by omega), hs e he (by omega), hI.1 (47 + e) (by omega) (by omega), bitc_ok hk]
theorem payOf_ok (hC : CL M a r l) (hI : LI r nc l) (he : e < vf r l 4) : m_X0_payloadOf a (nI e) M = some (nI (vf r l (7 + e))) := by
  have h40 := hI.2.2.2.2.2.1
  obtain ⟨-, -, -, -, -, -, -, -, hs, -⟩ := hC
  unfold m_X0_payloadOf
  rw [if_neg (nI_pos (by omega)), Ln 40, if_pos (nI_lt (by omega) (by omega)), ck_ix (by omega) (by omega), cl_nI (by omega), hs e he (by omega), hI.1 (7 + e) (by omega) (by omega)]
theorem cconf_loop (hC : CL M a r l) (hI : LI r nc l) : ∀ (d e g : Nat), e + d = vf r l 4 → d < g → m_X0_lastConfirmed_L2 a M g (nI e) = some (nI (lead (fun e => decide (vf r l 2 ≤ pc (vf r l (47 + e)))) d e) - 1) := by
  have h40 := hI.2.2.2.2.2.1
  have hE := hI.2.1
  have hW := hI.2.2.1
  have hA := hI.2.2.2.1
  have h5 : gF M a 5 = nI (vf r l 4) := by rw [hC.2.2.2.2.2.1, hI.1 4 (by omega) (by omega)]
  have h3 : gF M a 3 = nI (vf r l 2) := by rw [hC.2.2.2.1, hI.1 2 (by omega) (by omega)]
  intro d
  induction d with
  | zero =>
    intro e g h1 h2
    obtain ⟨g, rfl⟩ : ∃ k, g = k + 1 := ⟨g - 1, by omega⟩
    rw [m_X0_lastConfirmed_L2_s, h5, if_pos (nI_le (by omega) (by omega))]
    rfl
  | succ d ih =>
    intro e g h1 h2
    obtain ⟨g, rfl⟩ : ∃ k, g = k + 1 := ⟨g - 1, by omega⟩
    have hp := pc_le (m := vf r l (47 + e))
    rw [m_X0_lastConfirmed_L2_s, h5, if_neg (nI_ge (by omega) (by omega)), cack_ok hC hI (by omega), bind_s, h3]
    unfold lead
    by_cases hq : pc (vf r l (47 + e)) < vf r l 2
    · rw [if_pos (nI_lt hq (by omega)), if_neg (by simpa using hq)]
    · rw [if_neg (nI_nlt (by omega) (by omega)), if_pos (by simpa using hq), nI_1]
      exact ih (e + 1) g (by omega) (by omega)
theorem cconf_ok (hC : CL M a r l) (hI : LI r nc l) : m_X0_lastConfirmed a M = some (nI (rCf r l) - 1) := cconf_loop hC hI (vf r l 4) 0 fuel (by omega) (by have := hI.2.2.2.2.2.1; unfold fuel; omega)
/-- the last entry to read -/
def rRd (r : Nat → Int32) (l : Nat) : Int32 := if vf r l 3 = 0 then nI (rCf r l) - 1 else if vf r l 3 = 2 then r (2131 + 333 * l + 5) else -1
theorem cread_ok (hC : CL M a r l) (hI : LI r nc l) : m_X0_lastToRead a M = some (rRd r l) := by
  have h3 := hI.2.2.2.2.1
  have h4 : gF M a 4 = nI (vf r l 3) := by rw [hC.2.2.2.2.1, hI.1 3 (by omega) (by omega)]
  unfold m_X0_lastToRead rRd
  rw [h4]
  by_cases h0 : vf r l 3 = 0
  · rw [if_pos h0, h0, if_pos (show nI 0 = 0 from rfl), cconf_ok hC hI]
    rfl
  · rw [if_neg h0, if_neg (nI_ne0 (by omega) (by omega))]
    by_cases h2 : vf r l 3 = 2
    · rw [if_pos h2, h2, if_pos (show nI 2 = 2 from rfl), hC.2.2.2.2.2.2.1]
    · rw [if_neg h2, if_neg (show ¬ nI (vf r l 3) = 2 from nI_ne (b := 2) (by omega) (by omega) h2)]
theorem readable_ok (hl : l < 4) (hI : LI (gR M 4) nc l) : m_X6_readable 3 (nI l) M = some (rRd (gR M 4) l) := by
  have h3 := hI.2.2.2.2.1
  have hE := hI.2.1
  have hW := hI.2.2.1
  have hA := hI.2.2.2.1
  unfold m_X6_readable rRd
  rw [show (3 : Int32) = nI 3 from rfl, of_ok (by omega), bind_s, hI.1 3 (by omega) (by omega)]
  by_cases h0 : vf (gR M 4) l 3 = 0
  · rw [if_pos h0, h0, if_pos (show nI 0 = 0 from rfl), conf_ok hl hI.1 hI.2.2.2.2.2.1 (by omega) hI.2.2.2.2.2.2.2.2.2.2.2.2.1]
    rfl
  · rw [if_neg h0, if_neg (nI_ne0 (by omega) (by omega))]
    by_cases h2 : vf (gR M 4) l 3 = 2
    · rw [if_pos h2, h2, if_pos (show nI 2 = 2 from rfl), show (5 : Int32) = nI 5 from rfl, of_ok (by omega)]
      rfl
    · rw [if_neg h2, if_neg (show ¬ nI (vf (gR M 4) l 3) = 2 from nI_ne (b := 2) (by omega) (by omega) h2)]
end LED
