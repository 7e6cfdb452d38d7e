/-! what a node stores -/
theorem slot_ok {l e : Nat} (hl : l < 4) (he : e < 40) : m_X1_slotOf (nI l) (nI e) = nI (40 * l + e) := by
  unfold m_X1_slotOf
  rw [if_neg (nI_pos (by omega)), Ln 4, if_neg (nI_ge (by omega) (by omega)), if_neg (nI_pos (by omega)), Ln 40, if_neg (nI_ge (by omega) (by omega))]
  unfold m_X1_slotOf_b24
  rw [if_neg (by decide), Ln 40, nI_mul, nI_add, Nat.mul_comm]
theorem SC_nat {v : Int32} (h : SC v) : ∃ w, w < 64064 ∧ v = nI w ∧ (w = 0 ∨ (64 ≤ w ∧ w % 64 ≤ 40)) := by
  rcases h with h | ⟨p, c, h1, h2, h3⟩
  · exact ⟨0, by omega, h, Or.inl rfl⟩
  · exact ⟨64 * (p + 1) + c, by omega, h3, Or.inr ⟨by omega, by omega⟩⟩
theorem stc_0 {l e : Nat} : stc l e 0 = -1 := if_pos rfl
theorem stc_v {l e p c : Nat} (hp : p ≤ 999) (hc : c ≤ 40) : stc l e (nI (64 * (p + 1) + c)) = nI (pz l e c p) := by
  unfold stc
  rw [if_neg (nI_ne0 (by omega) (by omega)), cl_nI (by omega), show (64 * (p + 1) + c) % 64 = c by omega, show (64 * (p + 1) + c) / 64 - 1 = p by omega]
theorem stc_m1 {l e : Nat} {v : Int32} (hl : l < 4) (he : e < 40) (h : SC v) : stc l e v = -1 ↔ v = 0 := by
  constructor
  · intro q
    rcases h with h | ⟨p, c, h1, h2, h3⟩
    · exact h
    · rw [h3, stc_v h1 h2] at q
      exact absurd q (nI_m1 (pz_lt (by omega) (by omega) (by omega) (by omega)))
  · intro q
    rw [q]
    exact stc_0
section ND
variable {M : Mem} {a n lc l e : Nat} {r : Nat → Int32}
theorem sc_at (hI : NIv r lc n) (hl : l < 4) (he : e < 40) : SC (r (819 + 160 * n + 40 * l + e)) := by
  have := hI.2.2.1 (40 * l + e) (by omega)
  rwa [← Nat.add_assoc] at this
theorem stored_ok (hC : CN M a r n) (hl : l < 4) (he : e < 40) : m_X1_storedParcel a (nI l) (nI e) M = some (stc l e (r (819 + 160 * n + 40 * l + e))) := by
  unfold m_X1_storedParcel
  rw [slot_ok hl he, if_neg (nI_pos (by omega)), Ln 160, if_pos (nI_lt (by omega) (by omega)), ck_ix (by omega) (by omega), cl_nI (by omega), hC.2.2.2.2.1 l e hl he]
theorem holds_ok (hC : CN M a r n) (hI : NIv r lc n) (hl : l < 4) (he : e < 40) : m_X1_holds a (nI l) (nI e) M = some (if r (819 + 160 * n + 40 * l + e) = 0 then 0 else 1) := by
  unfold m_X1_holds
  rw [stored_ok hC hl he, bind_s]
  have h := stc_m1 hl he (sc_at hI hl he)
  by_cases hq : r (819 + 160 * n + 40 * l + e) = 0
  · rw [if_pos (h.mpr hq), if_pos hq]
  · rw [if_neg (fun q => hq (h.mp q)), if_neg hq]
theorem fenced_ok (hC : CN M a r n) (hl : l < 4) : m_X1_isFencedFor a (nI l) M = some (r (2099 + 4 * n + l)) := by
  obtain ⟨-, ⟨m, hm, h1, h1'⟩, -⟩ := hC
  unfold m_X1_isFencedFor
  rw [h1, contains_ok (by omega) (by omega), h1' l hl]
  cases m.testBit l
  · exact ck_t (Or.inl rfl)
  · exact ck_t (Or.inr rfl)
theorem rW_upd {k : Nat} {v : Int32} {j : Nat} (hv : v ≠ 0) : rW (upd r (819 + 160 * n + j) v) n k = rW r n k + (if j < k ∧ r (819 + 160 * n + j) = 0 then 1 else 0) := by
  induction k with
  | zero => rw [if_neg (fun q => by omega)]; rfl
  | succ k ih =>
    unfold rW
    rw [ih]
    by_cases hj : j = k
    · subst hj
      rw [upd_s, if_neg hv, if_neg (show ¬ (j < j ∧ r (819 + 160 * n + j) = 0) from fun q => by omega)]
      by_cases h0 : r (819 + 160 * n + j) = 0
      · rw [if_pos h0, if_pos (show j < j + 1 ∧ r (819 + 160 * n + j) = 0 from ⟨by omega, h0⟩)]
      · rw [if_neg h0, if_neg (show ¬ (j < j + 1 ∧ r (819 + 160 * n + j) = 0) from fun q => h0 q.2)]
    · rw [upd_n (by omega)]
      by_cases h0 : r (819 + 160 * n + j) = 0
      · by_cases hjk : j < k
        · rw [if_pos (show j < k ∧ r (819 + 160 * n + j) = 0 from ⟨hjk, h0⟩), if_pos (show j < k + 1 ∧ r (819 + 160 * n + j) = 0 from ⟨by omega, h0⟩)]; omega
        · rw [if_neg (show ¬ (j < k ∧ r (819 + 160 * n + j) = 0) from fun q => hjk q.1), if_neg (show ¬ (j < k + 1 ∧ r (819 + 160 * n + j) = 0) from fun q => by omega)]; omega
      · rw [if_neg (show ¬ (j < k ∧ r (819 + 160 * n + j) = 0) from fun q => h0 q.2), if_neg (show ¬ (j < k + 1 ∧ r (819 + 160 * n + j) = 0) from fun q => h0 q.2)]; omega
/-- the row after storing -/
def rKeep (r : Nat → Int32) (n l e p c : Nat) : Nat → Int32 := upd r (819 + 160 * n + 40 * l + e) (nI (64 * (p + 1) + c))
theorem keep_ok {p c : Nat} (hn : n < 8) (hC : CN M a r n) (hI : NIv r lc n) (hl : l < 4) (he : e < 40) (hp : p ≤ 999) (hc : c ≤ 40) : ∃ M', m_X1_keep a (nI (pz l e c p)) M = some M' ∧ CN M' a (rKeep r n l e p c) n ∧ Fc a 2 M M' ∧ (∀ B, B % 64 = 0 → a / 64 = B / 64 → (a + 1) / 64 = B / 64 → Fb B M M') := by
  have h := stc_m1 hl he (sc_at hI hl he)
  obtain ⟨h0, ⟨m, hm, h1, h1'⟩, h2, h3, h4, h5⟩ := id hC
  have hw := rW_le (r := r) (n := n) (k := 160)
  have hrW : rW (rKeep r n l e p c) n 160 = rW r n 160 + (if r (819 + 160 * n + 40 * l + e) = 0 then 1 else 0) := by
    unfold rKeep
    rw [Nat.add_assoc (819 + 160 * n) (40 * l) e, rW_upd (nI_ne0 (by omega) (by omega))]
    by_cases hz : r (819 + 160 * n + (40 * l + e)) = 0
    · rw [if_pos ⟨by omega, hz⟩, if_pos hz]
    · rw [if_neg (fun q => hz q.2), if_neg hz]
  have hne : ∀ i, i ≠ 819 + 160 * n + 40 * l + e → rKeep r n l e p c i = r i := fun i hi => upd_n hi
  have hst : ∀ l' e', l' < 4 → e' < 40 → upd (gR M (a + 1)) (40 * l + e) (nI (pz l e c p)) (40 * l' + e') = stc l' e' (rKeep r n l e p c (819 + 160 * n + 40 * l' + e')) := by
    intro l' e' hl' he'
    by_cases hq : 40 * l' + e' = 40 * l + e
    · obtain rfl : l' = l := by omega
      obtain rfl : e' = e := by omega
      rw [upd_s]
      unfold rKeep
      rw [upd_s, stc_v hp hc]
    · rw [upd_n hq, hne _ (by omega)]
      exact h4 l' e' hl' he'
  unfold m_X1_keep
  rw [pz_l hl (by omega) (by omega) (by omega), pz_e hl (by omega) (by omega) (by omega), slot_ok hl he, if_neg (nI_pos (by omega)), Ln 160, if_pos (nI_lt (by omega) (by omega)), ck_ix (by omega) (by omega), cl_nI (by omega), h4 l e hl he, ck_ix (by omega) (by omega), ck_ix (by omega) (by omega), aI_nI (by omega), aI_nI (by omega)]
  by_cases hz : r (819 + 160 * n + 40 * l + e) = 0
  · rw [if_pos (h.mpr hz)]
    refine ⟨_, rfl, ⟨?_, ⟨m, hm, ?_, fun k hk => ?_⟩, ?_, ?_, fun l' e' hl' he' => ?_, fun i hi hi100 => ?_⟩, (Fc.rf.sF (by omega)).sR (by omega), fun B hB ha ha1 => (Fb.rf.sF ha).sR ha1⟩
    · rw [gF_sR, gF_ne (by decide), h0, hne _ (by omega)]
    · rw [gF_sR, gF_ne (by decide), h1]
    · rw [hne _ (by omega), h1' k hk]
    · rw [gF_sR, gF_self, h2, hrW, if_pos hz, nI_1]
    · rw [gF_sR, gF_ne (by decide), h3, hne _ (by omega)]
    · rw [gR_self, gR_sF]; exact hst l' e' hl' he'
    · rw [hne _ (by omega)] at hi
      rw [gR_ne (by omega), gR_sF, h5 i hi hi100, hne _ (by omega)]
  · rw [if_neg (fun q => hz (h.mp q))]
    refine ⟨_, rfl, ⟨?_, ⟨m, hm, ?_, fun k hk => ?_⟩, ?_, ?_, fun l' e' hl' he' => ?_, fun i hi hi100 => ?_⟩, Fc.rf.sR (by omega), fun B hB ha ha1 => Fb.rf.sR ha1⟩
    · rw [gF_sR, h0, hne _ (by omega)]
    · rw [gF_sR, h1]
    · rw [hne _ (by omega), h1' k hk]
    · rw [gF_sR, h2, hrW, if_neg hz, Nat.add_zero]
    · rw [gF_sR, h3, hne _ (by omega)]
    · rw [gR_self]; exact hst l' e' hl' he'
    · rw [hne _ (by omega)] at hi
      rw [gR_ne (by omega), h5 i hi hi100, hne _ (by omega)]
theorem keep_NI {p c : Nat} (hn : n < 8) (hI : NIv r lc n) (h4 : lc ≤ 4) (hl : l < 4) (he : e < 40) (hp : p ≤ 999) (hc : c ≤ 40) : NIv (rKeep r n l e p c) lc n := by
  have hne : ∀ i, i ≠ 819 + 160 * n + 40 * l + e → rKeep r n l e p c i = r i := fun i hi => upd_n hi
  obtain ⟨h0, ⟨w, hw, h1, h2, h3⟩, h5, h6⟩ := hI
  have hm : ∀ k, k < lc → vf r k 4 ≤ vf (rKeep r n l e p c) k 4 := fun k hk => Nat.le_of_eq (by
    show cl (r _) = cl (rKeep r n l e p c _)
    rw [hne _ (by omega)])
  refine ⟨by rw [hne _ (by omega)]; exact h0, ⟨w, hw, by rw [hne _ (by omega)]; exact h1, by rw [hne _ (by omega)]; exact h2, fun i hi => ?_⟩, fun k hk => ?_, fun k hk => ?_⟩
  · rw [hne _ (by omega)]; exact (h3 i hi).mono (Nat.le_refl _) hm
  · by_cases hq : 819 + 160 * n + k = 819 + 160 * n + 40 * l + e
    · rw [hq]
      exact Or.inr ⟨p, c, hp, hc, upd_s⟩
    · rw [hne _ hq]; exact h5 k hk
  · rw [hne _ (by omega)]; exact h6 k hk
end ND
