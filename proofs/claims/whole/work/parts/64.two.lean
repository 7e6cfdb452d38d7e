/-! reads by two numbers -/
section TWO
variable {M : Mem} {nc lc n l e : Nat} {x y : Int32}
theorem isEnt_no (hI : Inv (gR M 4) nc lc) (hl : x < 0 ∨ nI lc ≤ x) : m_X6_isEntry 3 x y M = some 0 := by
  unfold m_X6_isEntry
  rw [isLed_no hI hl, bind_s]
  exact if_pos rfl
theorem isEnt_ok (hI : Inv (gR M 4) nc lc) (hl : l < lc) (he : e < vf (gR M 4) l 4) : m_X6_isEntry 3 (nI l) (nI e) M = some 1 := by
  have h4 := hI.2.1
  have hL := inv_l hI hl
  have h40 := hL.2.2.2.2.2.1
  unfold m_X6_isEntry
  rw [isLed_ok hI hl, bind_s, if_neg (show ¬ (1 : Int32) = 0 by decide), show (4 : Int32) = nI 4 from rfl, of_ok (by omega), bind_s, hL.1 4 (by omega) (by omega), in_ok he (by omega)]
  exact if_neg (by decide)
theorem isEnt_out (hI : Inv (gR M 4) nc lc) (hl : l < lc) (he : y < 0 ∨ nI (vf (gR M 4) l 4) ≤ y) : m_X6_isEntry 3 (nI l) y M = some 0 := by
  have h4 := hI.2.1
  have hL := inv_l hI hl
  have h40 := hL.2.2.2.2.2.1
  unfold m_X6_isEntry
  rw [isLed_ok hI hl, bind_s, if_neg (show ¬ (1 : Int32) = 0 by decide), show (4 : Int32) = nI 4 from rfl, of_ok (by omega), bind_s, hL.1 4 (by omega) (by omega), in_no (by omega) he]
  exact if_pos rfl
theorem isFra_no (hI : Inv (gR M 4) nc lc) (hl : x < 0 ∨ nI lc ≤ x) : m_X6_isFragment 3 x y M = some 0 := by
  unfold m_X6_isFragment
  rw [isLed_no hI hl, bind_s]
  exact if_pos rfl
theorem isFra_ok (hI : Inv (gR M 4) nc lc) (hl : l < lc) (he : e < vf (gR M 4) l 6) : m_X6_isFragment 3 (nI l) (nI e) M = some 1 := by
  have h4 := hI.2.1
  have hL := inv_l hI hl
  have h40 := hL.2.2.2.2.2.2.1
  unfold m_X6_isFragment
  rw [isLed_ok hI hl, bind_s, if_neg (show ¬ (1 : Int32) = 0 by decide), show (6 : Int32) = nI 6 from rfl, of_ok (by omega), bind_s, hL.1 6 (by omega) (by omega), in_ok he (by omega)]
  exact if_neg (by decide)
theorem isFra_out (hI : Inv (gR M 4) nc lc) (hl : l < lc) (he : y < 0 ∨ nI (vf (gR M 4) l 6) ≤ y) : m_X6_isFragment 3 (nI l) y M = some 0 := by
  have h4 := hI.2.1
  have hL := inv_l hI hl
  have h40 := hL.2.2.2.2.2.2.1
  unfold m_X6_isFragment
  rw [isLed_ok hI hl, bind_s, if_neg (show ¬ (1 : Int32) = 0 by decide), show (6 : Int32) = nI 6 from rfl, of_ok (by omega), bind_s, hL.1 6 (by omega) (by omega), in_no (by omega) he]
  exact if_pos rfl
theorem rqA_ok {a : Nat} {r : Nat → Int32} (hC : CL M a r l) (hL : LI r nc l) (he : e < vf r l 4) : m_X5_requireAppended a (nI e) M = some (.inl ()) := by
  have h40 := hL.2.2.2.2.2.1
  unfold m_X5_requireAppended
  rw [if_neg (nI_pos (by omega)), hC.2.2.2.2.2.1, hL.1 4 (by omega) (by omega), if_pos (nI_lt he (by omega))]
theorem rqA_no {a : Nat} {r : Nat → Int32} (hC : CL M a r l) (hL : LI r nc l) (he : y < 0 ∨ nI (vf r l 4) ≤ y) : m_X5_requireAppended a y M = some (.inr 1) := by
  unfold m_X5_requireAppended
  by_cases h0 : y < 0
  · rw [if_pos h0]
  · rw [if_neg h0, hC.2.2.2.2.2.1, hL.1 4 (by omega) (by omega), if_neg (Int32.not_lt.mpr (he.resolve_left h0))]
theorem rqF_ok {a : Nat} {r : Nat → Int32} (hC : CL M a r l) (hL : LI r nc l) (he : e < vf r l 6) : m_X5_requireFragment a (nI e) M = some (.inl ()) := by
  have h40 := hL.2.2.2.2.2.2.1
  unfold m_X5_requireFragment
  rw [if_neg (nI_pos (by omega)), hC.2.2.2.2.2.2.2.1, hL.1 6 (by omega) (by omega), if_pos (nI_lt he (by omega))]
theorem rqF_no {a : Nat} {r : Nat → Int32} (hC : CL M a r l) (hL : LI r nc l) (he : y < 0 ∨ nI (vf r l 6) ≤ y) : m_X5_requireFragment a y M = some (.inr 1) := by
  unfold m_X5_requireFragment
  by_cases h0 : y < 0
  · rw [if_pos h0]
  · rw [if_neg h0, hC.2.2.2.2.2.2.2.1, hL.1 6 (by omega) (by omega), if_neg (Int32.not_lt.mpr (he.resolve_left h0))]
/-- the nodes that store an entry -/
abbrev hoM (r : Nat → Int32) (l e k : Nat) : Nat := mkM (fun n => decide (r (819 + 160 * n + 40 * l + e) ≠ 0)) k
theorem hold_loop (hI : Inv (gR M 4) nc lc) (hl : l < 4) (he : e < 40) : ∀ (d k g : Nat), k + d = nc → d < g → m_X6_holding_L5 3 (nI l) (nI e) M g (nI (hoM (gR M 4) l e k)) (nI k) = some (nI (hoM (gR M 4) l e nc)) := by
  have h8 := hI.1
  intro d
  induction d with
  | zero =>
    intro k g h1 h2
    obtain ⟨g, rfl⟩ : ∃ k, g = k + 1 := ⟨g - 1, by omega⟩
    rw [m_X6_holding_L5_s, ck_0 (by omega), cl_0, hI.2.2.1, if_pos (nI_le (by omega) (by omega)), show k = nc by omega]
  | succ d ih =>
    intro k g h1 h2
    obtain ⟨g, rfl⟩ : ∃ k, g = k + 1 := ⟨g - 1, by omega⟩
    have hi := ih (k + 1) g (by omega) (by omega)
    rw [show hoM (gR M 4) l e (k + 1) = if decide (gR M 4 (819 + 160 * k + 40 * l + e) ≠ 0) = true then hoM (gR M 4) l e k ||| 2 ^ k else hoM (gR M 4) l e k from rfl] at hi
    rw [m_X6_holding_L5_s, ck_0 (by omega), cl_0, hI.2.2.1, if_neg (nI_ge (by omega) (by omega)), stores_ok (by omega), bind_s, nI_1]
    by_cases hq : gR M 4 (819 + 160 * k + 40 * l + e) = 0
    · rw [if_neg (by simpa using hq)] at hi
      rw [if_pos hq, if_pos rfl, or0]
      exact hi
    · rw [if_pos (by simpa using hq)] at hi
      rw [if_neg hq, if_neg (by decide), shl1 (by omega), or_nI]
      exact hi
theorem hold_ok (hI : Inv (gR M 4) nc lc) (hl : l < 4) (he : e < 40) : m_X6_holding 3 (nI l) (nI e) M = some (nI (hoM (gR M 4) l e nc)) := hold_loop hI hl he nc 0 fuel (by omega) (by have := hI.1; unfold fuel; omega)
theorem chold_loop {B a : Nat} {r : Nat → Int32} (hR : RC B r M) (hI : Inv r nc lc) (ha : gF M a 0 = nI l) (hl : l < 4) (he : e < 40) : ∀ (d k g : Nat), k + d = nc → d < g → m_X3_holderMask_L5 B a (nI e) M g (nI (hoM r l e k)) (nI k) = some (nI (hoM r l e nc)) := by
  have h8 := hI.1
  intro d
  induction d with
  | zero =>
    intro k g h1 h2
    obtain ⟨g, rfl⟩ : ∃ k, g = k + 1 := ⟨g - 1, by omega⟩
    rw [m_X3_holderMask_L5_s, rc_nc hR hI, if_pos (nI_le (by omega) (by omega)), show k = nc by omega]
  | succ d ih =>
    intro k g h1 h2
    obtain ⟨g, rfl⟩ : ∃ k, g = k + 1 := ⟨g - 1, by omega⟩
    have hk : k < nc := by omega
    have hi := ih (k + 1) g (by omega) (by omega)
    rw [show hoM r l e (k + 1) = if decide (r (819 + 160 * k + 40 * l + e) ≠ 0) = true then hoM r l e k ||| 2 ^ k else hoM r l e k from rfl] at hi
    rw [m_X3_holderMask_L5_s, rc_nc hR hI, if_neg (nI_ge (by omega) (by omega)), node_ok hR hI hk, bind_s]
    show Option.bind (m_X1_holds (B + 3 + 3 * k) (gF M a 0) (nI e) M) _ = _
    rw [ha, holds_ok (rc_n hR hI hk) (inv_n hI hk) hl he, bind_s, nI_1]
    by_cases hq : r (819 + 160 * k + 40 * l + e) = 0
    · rw [if_neg (by simpa using hq)] at hi
      rw [if_pos hq, if_pos rfl, or0]
      exact hi
    · rw [if_pos (by simpa using hq)] at hi
      rw [if_neg hq, if_neg (by decide), shl1 (by omega), or_nI]
      exact hi
theorem chold_ok {B a : Nat} {r : Nat → Int32} (hR : RC B r M) (hI : Inv r nc lc) (ha : gF M a 0 = nI l) (hl : l < 4) (he : e < 40) : m_X3_holderMask B a (nI e) M = some (nI (hoM r l e nc)) := chold_loop hR hI ha hl he nc 0 fuel (by omega) (by have := hI.1; unfold fuel; omega)
end TWO
/-- acknowledgements -/
theorem done_19 {G : Nat → Bool} {M : Mem} {x y : Int32} (h : Top G M) : ∃ G' M', s_19 x y G M = some (G', M') ∧ Top G' M' := by
  obtain ⟨⟨nc, lc, hI, hR⟩, -⟩ := id h
  have h4 := hI.2.1
  have h8 := hI.1
  unfold s_19
  rcases arg_of (x := x) (n := lc) (by omega) with ⟨l, hl, rfl⟩ | hx
  · have hC := rc_l hR hI hl
    have hL := inv_l hI hl
    have h40 : vf (gR M 4) l 4 ≤ 40 := hL.2.2.2.2.2.1
    rcases arg_of (x := y) (n := vf (gR M 4) l 4) (by omega) with ⟨e, he, rfl⟩ | hy
    · refine ⟨G, sF 3 3 0 (oL (nI (pc (vf (gR M 4) l (47 + e)))).toInt64 M), case_i (z := m_X6_acknowledgements 3 (nI l) (nI e)) (M := oL (nI (pc (vf (gR M 4) l (47 + e)))).toInt64 M) (v := nI (pc (vf (gR M 4) l (47 + e)))) ?_ ?_ gF_self go_oL, h.qu (Qu.rf.oL.s3)⟩
      · unfold m_L_acknowledgements m_X5_acknowledgements
        rw [exL_ok hR hI hl, bind_s]
        show Option.bind (Option.bind (m_X5_requireAppended (91 + 5 * l) (nI e) M) _) _ = _
        rw [rqA_ok hC hL he, bind_s]
        show Option.bind (Option.bind (m_X0_countAcknowledgers (91 + 5 * l) (nI e) M) _) _ = _
        rw [cack_ok hC hL he]
        rfl
      · unfold m_X6_acknowledgements
        rw [isEnt_ok (M := oL (nI (pc (vf (gR M 4) l (47 + e)))).toInt64 M) hI hl he, bind_s, fine0, if_neg ne10]
        rw [show (47 : Int32) = nI 47 from rfl, nI_add, of_ok (by omega), bind_s]
        show Option.bind (m_X6_count (gR M 4 (2131 + 333 * l + (47 + e)))) _ = _
        rw [hL.1 (47 + e) (by omega) (by omega), count_ok (hL.2.2.2.2.2.2.2.2.2.2.2.2.1 e he)]
        rfl
    · refine ⟨G, sF 3 3 1 M, case_t (z := m_X6_acknowledgements 3 (nI l) y) (M := M) (v := 0) (k := 1) ?_ ?_ gF_self (by decide), h.qu (Qu.rf.s3)⟩
      · unfold m_L_acknowledgements m_X5_acknowledgements
        rw [exL_ok hR hI hl, bind_s]
        show Option.bind (Option.bind (m_X5_requireAppended (91 + 5 * l) y M) _) _ = _
        rw [rqA_no hC hL hy, bind_s]
        rfl
      · unfold m_X6_acknowledgements
        rw [isEnt_out hI hl hy, bind_s, fine1, if_pos rfl]
  · refine ⟨G, sF 3 3 1 M, case_t (z := m_X6_acknowledgements 3 x y) (M := M) (v := 0) (k := 1) ?_ ?_ gF_self (by decide), h.qu (Qu.rf.s3)⟩
    · unfold m_L_acknowledgements m_X5_acknowledgements
      rw [exL_no hR hI hx, bind_s]
      rfl
    · unfold m_X6_acknowledgements
      rw [isEnt_no hI hx, bind_s, fine1, if_pos rfl]
/-- holders -/
theorem done_20 {G : Nat → Bool} {M : Mem} {x y : Int32} (h : Top G M) : ∃ G' M', s_20 x y G M = some (G', M') ∧ Top G' M' := by
  obtain ⟨⟨nc, lc, hI, hR⟩, -⟩ := id h
  have h4 := hI.2.1
  have h8 := hI.1
  unfold s_20
  rcases arg_of (x := x) (n := lc) (by omega) with ⟨l, hl, rfl⟩ | hx
  · have hC := rc_l hR hI hl
    have hL := inv_l hI hl
    have h40 : vf (gR M 4) l 4 ≤ 40 := hL.2.2.2.2.2.1
    rcases arg_of (x := y) (n := vf (gR M 4) l 4) (by omega) with ⟨e, he, rfl⟩ | hy
    · refine ⟨G, sF 3 3 0 (oL (nI (hoM (gR M 4) l e nc)).toInt64 M), case_i (z := m_X6_holders 3 (nI l) (nI e)) (M := oL (nI (hoM (gR M 4) l e nc)).toInt64 M) (v := nI (hoM (gR M 4) l e nc)) ?_ ?_ gF_self go_oL, h.qu (Qu.rf.oL.s3)⟩
      · unfold m_L_holders m_X5_holders
        rw [exL_ok hR hI hl, bind_s]
        show Option.bind (Option.bind (m_X5_requireAppended (91 + 5 * l) (nI e) M) _) _ = _
        rw [rqA_ok hC hL he, bind_s]
        show Option.bind (Option.bind (m_X3_holderMask 64 (91 + 5 * l) (nI e) M) _) _ = _
        rw [chold_ok hR hI hC.1 (by omega) (by omega)]
        rfl
      · unfold m_X6_holders
        rw [isEnt_ok (M := oL (nI (hoM (gR M 4) l e nc)).toInt64 M) hI hl he, bind_s, fine0, if_neg ne10]
        rw [hold_ok (M := sF 3 3 0 (oL (nI (hoM (gR M 4) l e nc)).toInt64 M)) hI (by omega) (by omega)]
        rfl
    · refine ⟨G, sF 3 3 1 M, case_t (z := m_X6_holders 3 (nI l) y) (M := M) (v := 0) (k := 1) ?_ ?_ gF_self (by decide), h.qu (Qu.rf.s3)⟩
      · unfold m_L_holders m_X5_holders
        rw [exL_ok hR hI hl, bind_s]
        show Option.bind (Option.bind (m_X5_requireAppended (91 + 5 * l) y M) _) _ = _
        rw [rqA_no hC hL hy, bind_s]
        rfl
      · unfold m_X6_holders
        rw [isEnt_out hI hl hy, bind_s, fine1, if_pos rfl]
  · refine ⟨G, sF 3 3 1 M, case_t (z := m_X6_holders 3 x y) (M := M) (v := 0) (k := 1) ?_ ?_ gF_self (by decide), h.qu (Qu.rf.s3)⟩
    · unfold m_L_holders m_X5_holders
      rw [exL_no hR hI hx, bind_s]
      rfl
    · unfold m_X6_holders
      rw [isEnt_no hI hx, bind_s, fine1, if_pos rfl]
/-- firstEntry -/
theorem done_22 {G : Nat → Bool} {M : Mem} {x y : Int32} (h : Top G M) : ∃ G' M', s_22 x y G M = some (G', M') ∧ Top G' M' := by
  obtain ⟨⟨nc, lc, hI, hR⟩, -⟩ := id h
  have h4 := hI.2.1
  have h8 := hI.1
  unfold s_22
  rcases arg_of (x := x) (n := lc) (by omega) with ⟨l, hl, rfl⟩ | hx
  · have hC := rc_l hR hI hl
    have hL := inv_l hI hl
    have h40 : vf (gR M 4) l 6 ≤ 41 := hL.2.2.2.2.2.2.1.2
    rcases arg_of (x := y) (n := vf (gR M 4) l 6) (by omega) with ⟨e, he, rfl⟩ | hy
    · refine ⟨G, sF 3 3 0 (oL (nI (vf (gR M 4) l (87 + e))).toInt64 M), case_i (z := m_X6_firstEntry 3 (nI l) (nI e)) (M := oL (nI (vf (gR M 4) l (87 + e))).toInt64 M) (v := nI (vf (gR M 4) l (87 + e))) ?_ ?_ gF_self go_oL, h.qu (Qu.rf.oL.s3)⟩
      · unfold m_L_firstEntry m_X5_firstEntry
        rw [exL_ok hR hI hl, bind_s]
        show Option.bind (Option.bind (m_X5_requireFragment (91 + 5 * l) (nI e) M) _) _ = _
        rw [rqF_ok hC hL he, bind_s]
        show Option.bind (Option.bind (m_X0_startOf (91 + 5 * l) (nI e) M) _) _ = _
        rw [startOf_ok hC hL he]
        rfl
      · unfold m_X6_firstEntry
        rw [isFra_ok (M := oL (nI (vf (gR M 4) l (87 + e))).toInt64 M) hI hl he, bind_s, fine0, if_neg ne10]
        rw [show (87 : Int32) = nI 87 from rfl, nI_add, of_ok (by omega), bind_s]
        show some (gR M 4 (2131 + 333 * l + (87 + e)), _) = _
        rw [hL.1 (87 + e) (by omega) (by omega)]
    · refine ⟨G, sF 3 3 1 M, case_t (z := m_X6_firstEntry 3 (nI l) y) (M := M) (v := 0) (k := 1) ?_ ?_ gF_self (by decide), h.qu (Qu.rf.s3)⟩
      · unfold m_L_firstEntry m_X5_firstEntry
        rw [exL_ok hR hI hl, bind_s]
        show Option.bind (Option.bind (m_X5_requireFragment (91 + 5 * l) y M) _) _ = _
        rw [rqF_no hC hL hy, bind_s]
        rfl
      · unfold m_X6_firstEntry
        rw [isFra_out hI hl hy, bind_s, fine1, if_pos rfl]
  · refine ⟨G, sF 3 3 1 M, case_t (z := m_X6_firstEntry 3 x y) (M := M) (v := 0) (k := 1) ?_ ?_ gF_self (by decide), h.qu (Qu.rf.s3)⟩
    · unfold m_L_firstEntry m_X5_firstEntry
      rw [exL_no hR hI hx, bind_s]
      rfl
    · unfold m_X6_firstEntry
      rw [isFra_no hI hx, bind_s, fine1, if_pos rfl]
