/-! reads by two numbers -/
section TWO
variable {M : Mem} {nc lc n l e : Nat} {x y : Int32}
theorem isEnt_no (hI : Inv (gR M 4) nc lc) (hl : x < 0 ∨ nI lc ≤ x) : m_X6_isEntry 3 x y M = some 0 := by
  unfold m_X6_isEntry
  rw [isLed_no hI hl, bind_s]
  exact if_pos rfl
theorem isEnt_ok (hI : Inv (gR M 4) nc lc) (hl : l < lc) (he : e < vf (gR M 4) l 4) : m_X6_isEntry 3 (nI l) (nI e) M = some 1 := by
  have h4 := hI.2.1
  have hL := inv_l hI hl
  have h40 := hL.2.2.2.2.2.1
  unfold m_X6_isEntry
  rw [isLed_ok hI hl, bind_s, if_neg (show ¬ (1 : Int32) = 0 by decide), show (4 : Int32) = nI 4 from rfl, of_ok (by omega), bind_s, hL.1 4 (by omega) (by omega), in_ok he (by omega)]
  exact if_neg (by decide)
theorem isEnt_out (hI : Inv (gR M 4) nc lc) (hl : l < lc) (he : y < 0 ∨ nI (vf (gR M 4) l 4) ≤ y) : m_X6_isEntry 3 (nI l) y M = some 0 := by
  have h4 := hI.2.1
  have hL := inv_l hI hl
  have h40 := hL.2.2.2.2.2.1
  unfold m_X6_isEntry
  rw [isLed_ok hI hl, bind_s, if_neg (show ¬ (1 : Int32) = 0 by decide), show (4 : Int32) = nI 4 from rfl, of_ok (by omega), bind_s, hL.1 4 (by omega) (by omega), in_no (by omega) he]
  exact if_pos rfl
theorem isFra_no (hI : Inv (gR M 4) nc lc) (hl : x < 0 ∨ nI lc ≤ x) : m_X6_isFragment 3 x y M = some 0 := by
  unfold m_X6_isFragment
  rw [isLed_no hI hl, bind_s]
  exact if_pos rfl
theorem isFra_ok (hI : Inv (gR M 4) nc lc) (hl : l < lc) (he : e < vf (gR M 4) l 6) : m_X6_isFragment 3 (nI l) (nI e) M = some 1 := by
  have h4 := hI.2.1
  have hL := inv_l hI hl
  have h40 := hL.2.2.2.2.2.2.1
  unfold m_X6_isFragment
  rw [isLed_ok hI hl, bind_s, if_neg (show ¬ (1 : Int32) = 0 by decide), show (6 : Int32) = nI 6 from rfl, of_ok (by omega), bind_s, hL.1 6 (by omega) (by omega), in_ok he (by omega)]
  exact if_neg (by decide)
theorem isFra_out (hI : Inv (gR M 4) nc lc) (hl : l < lc) (he : y < 0 ∨ nI (vf (gR M 4) l 6) ≤ y) : m_X6_isFragment 3 (nI l) y M = some 0 := by
  have h4 := hI.2.1
  have hL := inv_l hI hl
  have h40 := hL.2.2.2.2.2.2.1
  unfold m_X6_isFragment
  rw [isLed_ok hI hl, bind_s, if_neg (show ¬ (1 : Int32) = 0 by decide), show (6 : Int32) = nI 6 from rfl, of_ok (by omega), bind_s, hL.1 6 (by omega) (by omega), in_no (by omega) he]
  exact if_pos rfl
theorem rqA_ok {a : Nat} {r : Nat → Int32} (hC : CL M a r l) (hL : LI r nc l) (he : e < vf r l 4) : m_X5_requireAppended a (nI e) M = some () := by
  have h40 := hL.2.2.2.2.2.1
  unfold m_X5_requireAppended
  rw [if_neg (nI_pos (by omega)), hC.2.2.2.2.2.1, hL.1 4 (by omega) (by omega), if_pos (nI_lt he (by omega))]
theorem rqF_ok {a : Nat} {r : Nat → Int32} (hC : CL M a r l) (hL : LI r nc l) (he : e < vf r l 6) : m_X5_requireFragment a (nI e) M = some () := by
  have h40 := hL.2.2.2.2.2.2.1
  unfold m_X5_requireFragment
  rw [if_neg (nI_pos (by omega)), hC.2.2.2.2.2.2.2.1, hL.1 6 (by omega) (by omega), if_pos (nI_lt he (by omega))]
/-- the nodes that store an entry -/
abbrev hoM (r : Nat → Int32) (l e k : Nat) : Nat := mkM (fun n => decide (r (819 + 160 * n + 40 * l + e) ≠ 0)) k
theorem hold_loop (hI : Inv (gR M 4) nc lc) (hl : l < 4) (he : e < 40) : ∀ (d k g : Nat), k + d = nc → d < g → m_X6_holding_L5 3 (nI l) (nI e) M g (nI (hoM (gR M 4) l e k)) (nI k) = some (nI (hoM (gR M 4) l e nc)) := by
  have h8 := hI.1
  intro d
  induction d with
  | zero =>
    intro k g h1 h2
    obtain ⟨g, rfl⟩ : ∃ k, g = k + 1 := ⟨g - 1, by omega⟩
    rw [m_X6_holding_L5_s, ck_0 (by omega), cl_0, hI.2.2.1, if_pos (nI_le (by omega) (by omega)), show k = nc by omega]
  | succ d ih =>
    intro k g h1 h2
    obtain ⟨g, rfl⟩ : ∃ k, g = k + 1 := ⟨g - 1, by omega⟩
    have hi := ih (k + 1) g (by omega) (by omega)
    rw [show hoM (gR M 4) l e (k + 1) = if decide (gR M 4 (819 + 160 * k + 40 * l + e) ≠ 0) = true then hoM (gR M 4) l e k ||| 2 ^ k else hoM (gR M 4) l e k from rfl] at hi
    rw [m_X6_holding_L5_s, ck_0 (by omega), cl_0, hI.2.2.1, if_neg (nI_ge (by omega) (by omega)), stores_ok (by omega), bind_s, nI_1]
    by_cases hq : gR M 4 (819 + 160 * k + 40 * l + e) = 0
    · rw [if_neg (by simpa using hq)] at hi
      rw [if_pos hq, if_pos rfl, or0]
      exact hi
    · rw [if_pos (by simpa using hq)] at hi
      rw [if_neg hq, if_neg (by decide), shl1 (by omega), or_nI]
      exact hi
theorem hold_ok (hI : Inv (gR M 4) nc lc) (hl : l < 4) (he : e < 40) : m_X6_holding 3 (nI l) (nI e) M = some (nI (hoM (gR M 4) l e nc)) := hold_loop hI hl he nc 0 fuel (by omega) (by have := hI.1; unfold fuel; omega)
theorem chold_loop {B a : Nat} {r : Nat → Int32} (hR : RC B r M) (hI : Inv r nc lc) (ha : gF M a 0 = nI l) (hl : l < 4) (he : e < 40) : ∀ (d k g : Nat), k + d = nc → d < g → m_X3_holderMask_L5 B a (nI e) M g (nI (hoM r l e k)) (nI k) = some (nI (hoM r l e nc)) := by
  have h8 := hI.1
  intro d
  induction d with
  | zero =>
    intro k g h1 h2
    obtain ⟨g, rfl⟩ : ∃ k, g = k + 1 := ⟨g - 1, by omega⟩
    rw [m_X3_holderMask_L5_s, rc_nc hR hI, if_pos (nI_le (by omega) (by omega)), show k = nc by omega]
  | succ d ih =>
    intro k g h1 h2
    obtain ⟨g, rfl⟩ : ∃ k, g = k + 1 := ⟨g - 1, by omega⟩
    have hk : k < nc := by omega
    have hi := ih (k + 1) g (by omega) (by omega)
    rw [show hoM r l e (k + 1) = if decide (r (819 + 160 * k + 40 * l + e) ≠ 0) = true then hoM r l e k ||| 2 ^ k else hoM r l e k from rfl] at hi
    rw [m_X3_holderMask_L5_s, rc_nc hR hI, if_neg (nI_ge (by omega) (by omega)), node_ok hR hI hk, bind_s]
    show Option.bind (m_X1_holds (B + 3 + 3 * k) (gF M a 0) (nI e) M) _ = _
    rw [ha, holds_ok (rc_n hR hI hk) (inv_n hI hk) hl he, bind_s, nI_1]
    by_cases hq : r (819 + 160 * k + 40 * l + e) = 0
    · rw [if_neg (by simpa using hq)] at hi
      rw [if_pos hq, if_pos rfl, or0]
      exact hi
    · rw [if_pos (by simpa using hq)] at hi
      rw [if_neg hq, if_neg (by decide), shl1 (by omega), or_nI]
      exact hi
theorem chold_ok {B a : Nat} {r : Nat → Int32} (hR : RC B r M) (hI : Inv r nc lc) (ha : gF M a 0 = nI l) (hl : l < 4) (he : e < 40) : m_X3_holderMask B a (nI e) M = some (nI (hoM r l e nc)) := chold_loop hR hI ha hl he nc 0 fuel (by omega) (by have := hI.1; unfold fuel; omega)
end TWO
