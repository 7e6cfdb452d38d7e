/-! digest -/
abbrev dS (h : Int64) (v : Int32) : Int64 := 31 * h + v.toInt64
theorem add_sh {h : Int64} {v : Int32} {N : Mem} : m_X6_add 3 v (sh h N) = sh (dS h v) N := rfl
theorem gR_sh {h : Int64} {N : Mem} : gR (sh h N) = gR N := rfl
def dFi (r : Nat → Int32) (l f : Nat) : Nat → Nat → Int64 → Int64
  | 0, _, h => h
  | d + 1, p, h => dFi r l f d (p + 1) (dS h (nI (mbf r l f p)))
def dFo (r : Nat → Int32) (l : Nat) : Nat → Nat → Int64 → Int64
  | 0, _, h => h
  | d + 1, f, h => dFo r l d (f + 1) (dFi r l f (vf r l 0) 0 (dS h (nI (vf r l (87 + f)))))
def dEn (r : Nat → Int32) (l nc : Nat) : Nat → Nat → Int64 → Int64
  | 0, _, h => h
  | d + 1, e, h => dEn r l nc d (e + 1) (dS (dS (dS h (nI (vf r l (7 + e)))) (nI (pc (vf r l (47 + e))))) (nI (hoM r l e nc)))
def dFe (r : Nat → Int32) (l : Nat) : Nat → Nat → Int64 → Int64
  | 0, _, h => h
  | d + 1, n, h => dFe r l d (n + 1) (dS h (r (2099 + 4 * n + l)))
section DIG
variable {M N : Mem} {a nc lc l f : Nat} {r : Nat → Int32}
/-! the class -/
theorem cdf_in (hC : CL M a r l) (hL : LI r nc l) (hf : f < vf r l 6) {x0 : Int64} {k5 : Int64 → Int32 → Option Int64} : ∀ (d p g : Nat) (h : Int64), p + d = vf r l 0 → d < g → m_X5_digestFragments_L31 x0 a M k5 g h (nI f) (nI p) = k5 (dFi r l f d p h) (nI (f + 1)) := by
  have hE := hL.2.1
  have h1' : gF M a 1 = nI (vf r l 0) := by rw [hC.2.1, hL.1 0 (by omega) (by omega)]
  intro d
  induction d with
  | zero =>
    intro p g h h1 h2
    obtain ⟨g, rfl⟩ : ∃ k, g = k + 1 := ⟨g - 1, by omega⟩
    rw [m_X5_digestFragments_L31_s, h1', if_pos (nI_le (by omega) (by omega)), nI_1]
    rfl
  | succ d ih =>
    intro p g h h1 h2
    obtain ⟨g, rfl⟩ : ∃ k, g = k + 1 := ⟨g - 1, by omega⟩
    rw [m_X5_digestFragments_L31_s, h1', if_neg (nI_ge (by omega) (by omega)), nodeAt_ok hC hL hf (by omega), bind_s, nI_1]
    exact ih (p + 1) g _ (by omega) (by omega)
theorem cdf_out (hC : CL M a r l) (hL : LI r nc l) {x0 : Int64} : ∀ (d f g : Nat) (h : Int64), f + d = vf r l 6 → d < g → m_X5_digestFragments_L5 x0 a M g h (nI f) = some (dFo r l d f h) := by
  have hE := hL.2.1
  have hF := hL.2.2.2.2.2.2.1
  have h7' : gF M a 7 = nI (vf r l 6) := by rw [hC.2.2.2.2.2.2.2.1, hL.1 6 (by omega) (by omega)]
  intro d
  induction d with
  | zero =>
    intro f g h h1 h2
    obtain ⟨g, rfl⟩ : ∃ k, g = k + 1 := ⟨g - 1, by omega⟩
    rw [m_X5_digestFragments_L5_s, h7', if_pos (nI_le (by omega) (by omega))]
    rfl
  | succ d ih =>
    intro f g h h1 h2
    obtain ⟨g, rfl⟩ : ∃ k, g = k + 1 := ⟨g - 1, by omega⟩
    rw [m_X5_digestFragments_L5_s, h7', if_neg (nI_ge (by omega) (by omega)), startOf_ok hC hL (by omega), bind_s]
    refine (show _ = _ from cdf_in hC hL (by omega) (vf r l 0) 0 fuel (dS h (nI (vf r l (87 + f)))) (by omega) (by unfold fuel; omega)).trans ?_
    exact ih (f + 1) g _ (by omega) (by omega)
theorem cde (hR : RC 64 r M) (hI : Inv r nc lc) (hl : l < lc) (hC : CL M a r l) {x1 : Int64} : ∀ (d e g : Nat) (h : Int64), e + d = vf r l 4 → d < g → m_X5_digestEntries_L6 0 x1 a M g h (nI e) = some (dEn r l nc d e h) := by
  have hL := inv_l hI hl
  have h4 := hI.2.1
  have h40 := hL.2.2.2.2.2.1
  have h5' : gF M a 5 = nI (vf r l 4) := by rw [hC.2.2.2.2.2.1, hL.1 4 (by omega) (by omega)]
  intro d
  induction d with
  | zero =>
    intro e g h h1 h2
    obtain ⟨g, rfl⟩ : ∃ k, g = k + 1 := ⟨g - 1, by omega⟩
    rw [m_X5_digestEntries_L6_s, h5', if_pos (nI_le (by omega) (by omega))]
    rfl
  | succ d ih =>
    intro e g h h1 h2
    obtain ⟨g, rfl⟩ : ∃ k, g = k + 1 := ⟨g - 1, by omega⟩
    rw [m_X5_digestEntries_L6_s, h5', if_neg (nI_ge (by omega) (by omega)), payOf_ok hC hL (by omega), bind_s, cack_ok hC hL (by omega), bind_s, chold_ok hR hI hC.1 (by omega) (by omega), bind_s, nI_1]
    exact ih (e + 1) g _ (by omega) (by omega)
theorem cdx (hR : RC 64 r M) (hI : Inv r nc lc) (hl : l < 4) (h0 : gF M a 0 = nI l) {x1 : Int64} : ∀ (d n g : Nat) (h : Int64), n + d = nc → d < g → m_X5_digestFences_L6 0 x1 a M g h (nI n) = some (dFe r l d n h) := by
  have h8 := hI.1
  intro d
  induction d with
  | zero =>
    intro n g h h1 h2
    obtain ⟨g, rfl⟩ : ∃ k, g = k + 1 := ⟨g - 1, by omega⟩
    rw [m_X5_digestFences_L6_s, rc_nc hR hI, if_pos (nI_le (by omega) (by omega))]
    rfl
  | succ d ih =>
    intro n g h h1 h2
    obtain ⟨g, rfl⟩ : ∃ k, g = k + 1 := ⟨g - 1, by omega⟩
    have hn : n < nc := by omega
    rw [m_X5_digestFences_L6_s, rc_nc hR hI, if_neg (nI_ge (by omega) (by omega)), node_ok hR hI hn, bind_s, on_sm, h0, fenced_ok (rc_n hR hI hn) hl, bind_s, nI_1]
    have hi := ih (n + 1) g (dS h (r (2099 + 4 * n + l))) (by omega) (by omega)
    rcases (inv_n hI hn).2.2.2 l hl with hz | hz
    · rw [hz] at hi
      rw [hz, if_pos rfl]
      refine hi.trans ?_
      show _ = some (dFe r l d (n + 1) (dS h (r (2099 + 4 * n + l))))
      rw [hz]
    · rw [hz] at hi
      rw [hz, if_neg (show ¬ (1 : Int32) = 0 by decide)]
      refine hi.trans ?_
      show _ = some (dFe r l d (n + 1) (dS h (r (2099 + 4 * n + l))))
      rw [hz]
/-- a ledger's part of the hash -/
def dLe (r : Nat → Int32) (nc l K : Nat) (h : Int64) : Int64 := dFe r l nc 0 (dEn r l nc (vf r l 4) 0 (dFo r l (vf r l 6) 0 (dS (dS (dS (dS (dS (dS (dS (dS h (nI (vf r l 0))) (nI (vf r l 1))) (nI (vf r l 2))) (nI (vf r l 3))) (nI K - 1)) (nI (vf r l 4))) (nI (rUn r l K))) (nI (vf r l 6)))))
theorem cdl (hR : RC 64 r M) (hI : Inv r nc lc) (hl : l < lc) (hC : CL M a r l) {K : Nat} (hK : K ≤ 40) (hr : rRd r l = nI K - 1) {h : Int64} : m_X5_digestLedger 0 h a M = some (dLe r nc l K h) := by
  have hL := inv_l hI hl
  have h4 := hI.2.1
  have h8 := hI.1
  have hF := hL.2.2.2.2.2.2.1
  have h40 := hL.2.2.2.2.2.1
  unfold m_X5_digestLedger m_X5_digestFragments m_X5_digestEntries m_X5_digestFences
  rw [cread_ok hC hL, bind_s, hr, cund_ok hR hI hl hC hK hr, bind_s]
  rw [hC.2.1, hC.2.2.1, hC.2.2.2.1, hC.2.2.2.2.1, hC.2.2.2.2.2.1, hC.2.2.2.2.2.2.2.1, hL.1 0 (by omega) (by omega), hL.1 1 (by omega) (by omega), hL.1 2 (by omega) (by omega), hL.1 3 (by omega) (by omega), hL.1 4 (by omega) (by omega), hL.1 6 (by omega) (by omega)]
  rw [show (0 : Int32) = nI 0 from rfl, cdf_out hC hL (vf r l 6) 0 fuel _ (by omega) (by unfold fuel; omega), bind_s, cde hR hI hl hC (vf r l 4) 0 fuel _ (by omega) (by unfold fuel; omega), bind_s, cdx hR hI (by omega) hC.1 nc 0 fuel _ (by omega) (by unfold fuel; omega), bind_s]
  rfl
/-- a node's part of the hash -/
def dNo (r : Nat → Int32) (nc n : Nat) (h : Int64) : Int64 := dS (dS (dS (dS h (r (3 + n))) (r (11 + n))) (nI (rW r n 160))) (rSh r nc n).toInt32
theorem cdn (hR : RC 64 r M) (hI : Inv r nc lc) {n : Nat} (hn : n < nc) {h : Int64} : m_X5_digestNode 0 h (67 + 3 * n) M = some (dNo r nc n h) := by
  have h8 := hI.1
  have hC := rc_n hR hI hn
  have hsh := csh_ok hR hI hn
  have hb := bos_ok (rSh_ok (r := r) h8 hn)
  unfold m_X5_digestNode m_X5_digestNode_b23
  rw [hsh, bind_s, hb, bind_s, show gF M (67 + 3 * n) 0 = r (3 + n) from hC.1, show gF M (67 + 3 * n) 3 = r (11 + n) from hC.2.2.2.1, show gF M (67 + 3 * n) 2 = nI (rW r n 160) from hC.2.2.1]
  unfold dNo
  rcases up01 hI hn with hu | hu
  · rw [hu, if_pos rfl]
  · rw [hu, if_neg (show ¬ (1 : Int32) = 0 by decide), bind_s, hb]
    rfl
def dNs (r : Nat → Int32) (nc : Nat) : Nat → Nat → Int64 → Int64
  | 0, _, h => h
  | d + 1, n, h => dNs r nc d (n + 1) (dNo r nc n h)
/-- the number behind the last readable entry -/
def rK (r : Nat → Int32) (l : Nat) : Nat := cl (rRd r l + 1)
theorem rK_ok (hL : LI r nc l) : rK r l ≤ 40 ∧ rRd r l = nI (rK r l) - 1 := by
  obtain ⟨k, hk, e1⟩ := rRd_of hL
  unfold rK
  rw [e1, Int32.sub_add_cancel, cl_nI (by omega)]
  exact ⟨hk, rfl⟩
def dLs (r : Nat → Int32) (nc : Nat) : Nat → Nat → Int64 → Int64
  | 0, _, h => h
  | d + 1, l, h => dLs r nc d (l + 1) (dLe r nc l (rK r l) h)
theorem cdls (hR : RC 64 r M) (hI : Inv r nc lc) : ∀ (d l g : Nat) (h : Int64), l + d = lc → d < g → m_X5_digest_L99 0 M g h (nI l) = some (dLs r nc d l h) := by
  have h4 := hI.2.1
  intro d
  induction d with
  | zero =>
    intro l g h h1 h2
    obtain ⟨g, rfl⟩ : ∃ k, g = k + 1 := ⟨g - 1, by omega⟩
    rw [m_X5_digest_L99_s, rc_lc hR hI, if_pos (nI_le (by omega) (by omega))]
    rfl
  | succ d ih =>
    intro l g h h1 h2
    obtain ⟨g, rfl⟩ : ∃ k, g = k + 1 := ⟨g - 1, by omega⟩
    have hl : l < lc := by omega
    have hK := rK_ok (inv_l hI hl)
    rw [m_X5_digest_L99_s, rc_lc hR hI, if_neg (nI_ge (by omega) (by omega)), ledger_ok hR hI hl, bind_s, on_sm, cdl hR hI hl (rc_l hR hI hl) hK.1 hK.2, bind_s, nI_1]
    exact ih (l + 1) g _ (by omega) (by omega)
theorem cdns (hR : RC 64 r M) (hI : Inv r nc lc) : ∀ (d n g : Nat) (h : Int64), n + d = nc → d < g → m_X5_digest_L51 0 M g h (nI n) = some (dLs r nc lc 0 (dS (dNs r nc d n h) (nI lc))) := by
  have h8 := hI.1
  have h4 := hI.2.1
  intro d
  induction d with
  | zero =>
    intro n g h h1 h2
    obtain ⟨g, rfl⟩ : ∃ k, g = k + 1 := ⟨g - 1, by omega⟩
    rw [m_X5_digest_L51_s, rc_nc hR hI, if_pos (nI_le (by omega) (by omega)), rc_lc hR hI]
    exact cdls hR hI lc 0 fuel _ (by omega) (by unfold fuel; omega)
  | succ d ih =>
    intro n g h h1 h2
    obtain ⟨g, rfl⟩ : ∃ k, g = k + 1 := ⟨g - 1, by omega⟩
    have hn : n < nc := by omega
    rw [m_X5_digest_L51_s, rc_nc hR hI, if_neg (nI_ge (by omega) (by omega)), node_ok hR hI hn, bind_s, on_sm, show m_X5_digestNode 0 h (64 + 3 + 3 * n) M = _ from cdn hR hI hn, bind_s, nI_1]
    exact ih (n + 1) g _ (by omega) (by omega)
end DIG
