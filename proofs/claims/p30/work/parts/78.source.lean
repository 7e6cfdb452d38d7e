/-! the first node of the write set that is up and stores the entry -/
def rSrc (r : Nat → Int32) (l e f : Nat) : Nat → Nat → Option Nat
  | 0, _ => none
  | d + 1, i => if r (3 + mbf r l f ((e + i) % vf r l 0)) = 1 ∧ r (819 + 160 * mbf r l f ((e + i) % vf r l 0) + 40 * l + e) ≠ 0 then some (mbf r l f ((e + i) % vf r l 0)) else rSrc r l e f d (i + 1)
def cpy1 (r : Nat → Int32) (l e : Nat) : Option Nat → Int32
  | none => -1
  | some n => stc l e (r (819 + 160 * n + 40 * l + e))
theorem rSrc_s {r : Nat → Int32} {l e f d i : Nat} : rSrc r l e f (d + 1) i = if r (3 + mbf r l f ((e + i) % vf r l 0)) = 1 ∧ r (819 + 160 * mbf r l f ((e + i) % vf r l 0) + 40 * l + e) ≠ 0 then some (mbf r l f ((e + i) % vf r l 0)) else rSrc r l e f d (i + 1) := rfl
section SRC
variable {M : Mem} {B nc lc l e f : Nat} {r : Nat → Int32}
theorem src_loop (hI : Inv (gR M 4) nc lc) (hl : l < lc) (hf : f < vf (gR M 4) l 6) (he : e < 40) : ∀ (d i g : Nat), i + d = vf (gR M 4) l 1 → d < g → m_X6_source_L10 3 (nI l) (nI e) M g (nI f) (nI i) = some (on1 (rSrc (gR M 4) l e f d i)) := by
  have hL := inv_l hI hl
  have h4 := hI.2.1
  have h8 := hI.1
  have hE := hL.2.1
  have hW := hL.2.2.1
  have h41 := hL.2.2.2.2.2.2.1.2
  intro d
  induction d with
  | zero =>
    intro i g h1 h2
    obtain ⟨g, rfl⟩ : ∃ k, g = k + 1 := ⟨g - 1, by omega⟩
    rw [m_X6_source_L10_s, show (1 : Int32) = nI 1 from rfl, of_ok (by omega), bind_s, hL.1 1 (by omega) (by omega), if_pos (nI_le (by omega) (by omega))]
    rfl
  | succ d ih =>
    intro i g h1 h2
    obtain ⟨g, rfl⟩ : ∃ k, g = k + 1 := ⟨g - 1, by omega⟩
    have hm : (e + i) % vf (gR M 4) l 0 < vf (gR M 4) l 0 := Nat.mod_lt _ (by omega)
    have hn := mb8 hL h8 hf hm
    rw [m_X6_source_L10_s, show m_X6_of 3 (nI l) 1 M = some (gR M 4 (2131 + 333 * l + 1)) from of_ok (w := 1) (by omega), bind_s, hL.1 1 (by omega) (by omega), if_neg (nI_ge (by omega) (by omega)), writer_ok (hL.1 0 (by omega) (by omega)) (by omega) (by omega) (by omega) (by omega) (by omega) (by omega), bind_s, show gR M 4 (2131 + 333 * l + (128 + 5 * f + (e + i) % vf (gR M 4) l 0)) = nI (mbf (gR M 4) l f ((e + i) % vf (gR M 4) l 0)) from hL.1 (128 + 5 * f + (e + i) % vf (gR M 4) l 0) (by omega) (by omega), isUp_ok (by omega), bind_s, stores_ok (by omega), rSrc_s, nI_1]
    have hi := ih (i + 1) g (by omega) (by omega)
    by_cases hu : gR M 4 (3 + mbf (gR M 4) l f ((e + i) % vf (gR M 4) l 0)) = 1
    · rw [if_pos hu, if_neg (show ¬ (1 : Int32) = 0 by decide), bind_s]
      by_cases hs : gR M 4 (819 + 160 * mbf (gR M 4) l f ((e + i) % vf (gR M 4) l 0) + 40 * l + e) = 0
      · rw [if_pos hs, if_pos rfl, if_neg (fun q => q.2 hs)]
        exact hi
      · rw [if_neg hs, if_neg (show ¬ (1 : Int32) = 0 by decide), if_pos ⟨hu, hs⟩]
        rfl
    · rw [if_neg hu, if_pos rfl, if_neg (fun q => hu q.1)]
      exact hi
theorem first_loop {a : Nat} (hR : RC B r M) (hI : Inv r nc lc) (hl : l < lc) (hC : CL M a r l) (hf : f < vf r l 6) (he : e < 40) : ∀ (d i g : Nat), i + d = vf r l 1 → d < g → m_X3_firstCopy_L9 B a (nI e) M g (nI f) (nI i) = some (cpy1 r l e (rSrc r l e f d i)) := by
  have hL := inv_l hI hl
  have h4 := hI.2.1
  have h8 := hI.1
  have hE := hL.2.1
  have hW := hL.2.2.1
  have h2' : gF M a 2 = nI (vf r l 1) := by rw [hC.2.2.1, hL.1 1 (by omega) (by omega)]
  intro d
  induction d with
  | zero =>
    intro i g h1 h2
    obtain ⟨g, rfl⟩ : ∃ k, g = k + 1 := ⟨g - 1, by omega⟩
    rw [m_X3_firstCopy_L9_s, h2', if_pos (nI_le (by omega) (by omega))]
    rfl
  | succ d ih =>
    intro i g h1 h2
    obtain ⟨g, rfl⟩ : ∃ k, g = k + 1 := ⟨g - 1, by omega⟩
    have hm : (e + i) % vf r l 0 < vf r l 0 := Nat.mod_lt _ (by omega)
    have hn : mbf r l f ((e + i) % vf r l 0) < nc := hL.2.2.2.2.2.2.2.2.2.2.1 f _ hf hm
    rw [m_X3_firstCopy_L9_s, h2', if_neg (nI_ge (by omega) (by omega)), wsn_ok hC hL hf (by omega) (by omega), bind_s, node_ok hR hI hn, bind_s, on_sm, (rc_n hR hI hn).1, hC.1, holds_ok (rc_n hR hI hn) (inv_n hI hn) (by omega) he, bind_s, stored_ok (rc_n hR hI hn) (by omega) he, bind_s, rSrc_s, nI_1]
    have hi := ih (i + 1) g (by omega) (by omega)
    rcases up01 hI hn with hu | hu
    · rw [if_pos hu, if_neg (fun q => absurd (hu.symm.trans q.1) (by decide))]
      exact hi
    · rw [if_neg (fun q => absurd (hu.symm.trans q) (by decide))]
      by_cases hs : r (819 + 160 * mbf r l f ((e + i) % vf r l 0) + 40 * l + e) = 0
      · rw [if_pos hs, if_pos rfl, if_neg (fun q => q.2 hs)]
        exact hi
      · rw [if_neg hs, if_neg (show ¬ (1 : Int32) = 0 by decide), if_pos ⟨hu, hs⟩]
        rfl
end SRC
