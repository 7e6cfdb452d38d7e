/-! under-replicated entries -/
def rLv (r : Nat → Int32) (l e n : Nat) : Bool := decide (r (3 + n) = 1 ∧ r (819 + 160 * n + 40 * l + e) ≠ 0)
/-- how many of the write set are up and store the entry -/
def rLc (r : Nat → Int32) (l e : Nat) (k : Nat) : Nat := cnt (fun i => rLv r l e (mbf r l (frg r l e) ((e + i) % vf r l 0))) k
def rUn (r : Nat → Int32) (l : Nat) : Nat → Nat
  | 0 => 0
  | k + 1 => rUn r l k + (if rLc r l k (vf r l 1) < vf r l 1 then 1 else 0)
theorem rUn_s {r : Nat → Int32} {l k : Nat} : rUn r l (k + 1) = rUn r l k + (if rLc r l k (vf r l 1) < vf r l 1 then 1 else 0) := rfl
theorem rUn_le {r : Nat → Int32} {l k : Nat} : rUn r l k ≤ k := by
  induction k with
  | zero => exact Nat.le_refl 0
  | succ k ih =>
    rw [rUn_s]
    split <;> omega
section UND
variable {M : Mem} {B nc lc l e f : Nat} {r : Nat → Int32}
theorem frg_lt (hL : LI r nc l) : frg r l e < vf r l 6 := rFr_lt (by have := hL.2.2.2.2.2.2.1; omega)
theorem fragOf_o (hI : Inv (gR M 4) nc lc) (hl : l < lc) (he : e < 1000) : m_X6_fragmentOf 3 (nI l) (nI e) M = some (nI (frg (gR M 4) l e)) := by
  have hL := inv_l hI hl
  have h4 := hI.2.1
  have hF := hL.2.2.2.2.2.2.1
  exact fragOf_ok (by omega) hL.1 hF.1 hF.2 hL.2.2.2.2.2.2.2.1 hL.2.2.2.2.2.2.2.2.1 (by omega)
theorem writer_o (hI : Inv (gR M 4) nc lc) (hl : l < lc) (hf : f < vf (gR M 4) l 6) (he : e < 1000) {i : Nat} (hi : i < 1000) : m_X6_writer 3 (nI l) (nI f) (nI e) (nI i) M = some (nI (mbf (gR M 4) l f ((e + i) % vf (gR M 4) l 0))) := by
  have hL := inv_l hI hl
  have h4 := hI.2.1
  have hE := hL.2.1
  have h41 := hL.2.2.2.2.2.2.1.2
  have hm : (e + i) % vf (gR M 4) l 0 < vf (gR M 4) l 0 := Nat.mod_lt _ (by omega)
  rw [writer_ok (hL.1 0 (by omega) (by omega)) (by omega) (by omega) (by omega) (by omega) he hi]
  exact congrArg some (hL.1 (128 + 5 * f + (e + i) % vf (gR M 4) l 0) (by omega) (by omega))
theorem of_o (hI : Inv (gR M 4) nc lc) (hl : l < lc) {w : Nat} (hw : w < 333) (h5 : w ≠ 5) : m_X6_of 3 (nI l) (nI w) M = some (nI (vf (gR M 4) l w)) := by
  have h4 := hI.2.1
  rw [of_ok (by omega), (inv_l hI hl).1 w hw h5]
theorem und_in (hI : Inv (gR M 4) nc lc) (hl : l < lc) (he : e < 40) {v2 v3 : Int32} {k11 : Int32 → Int32 → Int32 → Option Int32} : ∀ (d i g : Nat), i + d = vf (gR M 4) l 1 → d < g → m_X6_under_L23 3 (nI l) M k11 g v2 v3 (nI e) (nI (rLc (gR M 4) l e i)) (nI i) = k11 (v2 + nI (if rLc (gR M 4) l e (vf (gR M 4) l 1) < vf (gR M 4) l 1 then 1 else 0)) v3 (nI (e + 1)) := by
  have hL := inv_l hI hl
  have h4 := hI.2.1
  have h8 := hI.1
  have hE := hL.2.1
  have hW := hL.2.2.1
  have hof : m_X6_of 3 (nI l) 1 M = some (nI (vf (gR M 4) l 1)) := of_o hI hl (w := 1) (by omega) (by omega)
  have hle : ∀ i, rLc (gR M 4) l e i ≤ i := fun i => cnt_le
  intro d
  induction d with
  | zero =>
    intro i g h1 h2
    obtain ⟨g, rfl⟩ : ∃ k, g = k + 1 := ⟨g - 1, by omega⟩
    have hi := hle i
    obtain rfl : i = vf (gR M 4) l 1 := by omega
    rw [m_X6_under_L23_s, hof, bind_s, if_pos (nI_le (by omega) (by omega)), bind_s, nI_1]
    by_cases hq : rLc (gR M 4) l e (vf (gR M 4) l 1) < vf (gR M 4) l 1
    · rw [if_neg (nI_ge hq (by omega)), if_pos hq]
      rfl
    · rw [if_pos (nI_le (by omega) (by omega)), if_neg hq]
      rfl
  | succ d ih =>
    intro i g h1 h2
    obtain ⟨g, rfl⟩ : ∃ k, g = k + 1 := ⟨g - 1, by omega⟩
    have hf := frg_lt (e := e) hL
    have hn := ws_lt (e := e) (i := i) hL hf
    have hi := ih (i + 1) g (by omega) (by omega)
    rw [m_X6_under_L23_s, hof, bind_s, if_neg (nI_ge (by omega) (by omega)), fragOf_o hI hl (by omega), bind_s, writer_o hI hl hf (by omega) (by omega), bind_s, isUp_ok (by omega), bind_s, nI_1]
    rw [show rLc (gR M 4) l e (i + 1) = rLc (gR M 4) l e i + (if rLv (gR M 4) l e (mbf (gR M 4) l (frg (gR M 4) l e) ((e + i) % vf (gR M 4) l 0)) = true then 1 else 0) from rfl] at hi
    unfold rLv at hi
    by_cases hu : gR M 4 (3 + mbf (gR M 4) l (frg (gR M 4) l e) ((e + i) % vf (gR M 4) l 0)) = 1
    · rw [if_pos hu, if_neg (show ¬ (1 : Int32) = 0 by decide), stores_ok (by omega), bind_s]
      by_cases hs : gR M 4 (819 + 160 * mbf (gR M 4) l (frg (gR M 4) l e) ((e + i) % vf (gR M 4) l 0) + 40 * l + e) = 0
      · rw [if_pos hs, if_pos (show (0 : Int32) = 0 from rfl)]
        rw [if_neg (fun q => (of_decide_eq_true q).2 hs), Nat.add_zero] at hi
        rw [Int32.add_zero]
        exact hi
      · rw [if_neg hs, if_neg (show ¬ (1 : Int32) = 0 by decide), nI_1]
        rw [if_pos (decide_eq_true ⟨hu, hs⟩)] at hi
        exact hi
    · rw [if_neg hu, if_pos (show (0 : Int32) = 0 from rfl)]
      rw [if_neg (fun q => hu (of_decide_eq_true q).1), Nat.add_zero] at hi
      rw [Int32.add_zero]
      exact hi
theorem und_out (hI : Inv (gR M 4) nc lc) (hl : l < lc) {K : Nat} (hK : K ≤ 40) : ∀ (d e g : Nat), e + d = K → d < g → m_X6_under_L11 3 (nI l) M g (nI (rUn (gR M 4) l e)) (nI K - 1) (nI e) = some (nI (rUn (gR M 4) l K)) := by
  intro d
  induction d with
  | zero =>
    intro e g h1 h2
    obtain ⟨g, rfl⟩ : ∃ k, g = k + 1 := ⟨g - 1, by omega⟩
    rw [m_X6_under_L11_s, if_pos ((m1_lt (by omega) (by omega)).mpr (by omega)), show e = K by omega]
  | succ d ih =>
    intro e g h1 h2
    obtain ⟨g, rfl⟩ : ∃ k, g = k + 1 := ⟨g - 1, by omega⟩
    have hL := inv_l hI hl
    rw [m_X6_under_L11_s, if_neg (fun q => by have := (m1_lt (by omega) (by omega)).mp q; omega)]
    refine (und_in hI hl (by omega) (vf (gR M 4) l 1) 0 fuel (by omega) (by have := hL.2.2.1; have := hL.2.1; unfold fuel; omega)).trans ?_
    rw [nI_add]
    exact ih (e + 1) g (by omega) (by omega)
theorem under_ok (hI : Inv (gR M 4) nc lc) (hl : l < lc) {K : Nat} (hK : K ≤ 40) (hr : rRd (gR M 4) l = nI K - 1) : m_X6_under 3 (nI l) M = some (nI (rUn (gR M 4) l K)) := by
  have h4 := hI.2.1
  unfold m_X6_under
  rw [readable_ok (by omega) (inv_l hI hl), bind_s, hr]
  exact und_out hI hl hK K 0 fuel (by omega) (by unfold fuel; omega)
theorem live_pc (hL : LI r nc l) (h8 : nc ≤ 8) : pc (wsM r l (frg r l e) e &&& (upM r nc &&& hoM r l e nc)) = rLc r l e (vf r l 1) := by
  rw [ws_pc hL h8 (frg_lt hL)]
  refine cnt_congr (fun i hi => ?_)
  have hn := ws_lt (e := e) (i := i) hL (frg_lt (e := e) hL)
  rw [Bool.eq_iff_iff, Nat.testBit_and, Bool.and_eq_true, mkM_bit, mkM_bit]
  unfold rLv
  rw [decide_eq_true_eq, decide_eq_true_eq, decide_eq_true_eq]
  exact ⟨fun q => ⟨q.1.2, q.2.2⟩, fun q => ⟨⟨hn, q.1⟩, hn, q.2⟩⟩
theorem cund_out {a : Nat} (hR : RC B r M) (hI : Inv r nc lc) (hl : l < lc) (hC : CL M a r l) {K : Nat} (hK : K ≤ 40) : ∀ (d e g : Nat), e + d = K → d < g → m_X3_countUnderReplicated_L21 B a M g (nI (rUn r l e)) (nI (upM r nc)) (nI K - 1) (nI e) = some (nI (rUn r l K)) := by
  have hL := inv_l hI hl
  have h4 := hI.2.1
  have h8 := hI.1
  have hW := hL.2.2.1
  have hE := hL.2.1
  have h2' : gF M a 2 = nI (vf r l 1) := by rw [hC.2.2.1, hL.1 1 (by omega) (by omega)]
  intro d
  induction d with
  | zero =>
    intro e g h1 h2
    obtain ⟨g, rfl⟩ : ∃ k, g = k + 1 := ⟨g - 1, by omega⟩
    rw [m_X3_countUnderReplicated_L21_s, if_pos ((m1_lt (by omega) (by omega)).mpr (by omega)), show e = K by omega]
  | succ d ih =>
    intro e g h1 h2
    obtain ⟨g, rfl⟩ : ∃ k, g = k + 1 := ⟨g - 1, by omega⟩
    have hf := frg_lt (e := e) hL
    have hle : rLc r l e (vf r l 1) ≤ vf r l 1 := cnt_le
    have hlt : wsM r l (frg r l e) e &&& (upM r nc &&& hoM r l e nc) < 256 := Nat.lt_of_le_of_lt Nat.and_le_left (orB_lt (fun i _ => Nat.lt_of_lt_of_le (ws_lt hL hf) h8))
    have hi := ih (e + 1) g (by omega) (by omega)
    rw [rUn_s] at hi
    rw [m_X3_countUnderReplicated_L21_s, if_neg (fun q => by have := (m1_lt (by omega) (by omega)).mp q; omega), cfrag_ok hC hL (by omega), bind_s, wsM_ok hC hL h8 hf (by omega), bind_s, chold_ok hR hI hC.1 (by omega) (by omega), bind_s, and_nI, and_nI, Nat.and_assoc, bitc_ok hlt, live_pc hL h8, h2', nI_1]
    by_cases hq : rLc r l e (vf r l 1) < vf r l 1
    · rw [if_neg (nI_ge hq (by omega)), nI_1]
      rw [if_pos hq] at hi
      exact hi
    · rw [if_pos (nI_le (by omega) (by omega))]
      rw [if_neg hq] at hi
      exact hi
theorem cund_ok {a : Nat} (hR : RC B r M) (hI : Inv r nc lc) (hl : l < lc) (hC : CL M a r l) {K : Nat} (hK : K ≤ 40) (hr : rRd r l = nI K - 1) : m_X3_countUnderReplicated B a M = some (nI (rUn r l K)) := by
  unfold m_X3_countUnderReplicated
  rw [upM_ok hR hI, bind_s, cread_ok hC (inv_l hI hl), bind_s, hr, min39 hK]
  exact cund_out hR hI hl hC hK K 0 fuel (by omega) (by unfold fuel; omega)
end UND
