/-! the calls that only read -/
theorem ne10 {α : Type} {a : α} : ¬ ((1 : Int32), a).1 = 0 := fun q => absurd (show (1 : Int32) = 0 from q) (by decide)
theorem Inv.qu {M M' : Mem} {nc lc : Nat} (q : Qu M M') (h : Inv (gR M 4) nc lc) : Inv (gR M' 4) nc lc := by rw [q.2]; exact h
/-- weight -/
theorem done_6 {G : Nat → Bool} {M : Mem} {x : Int32} (h : Top G M) : ∃ G' M', s_6 x G M = some (G', M') ∧ Top G' M' := by
  obtain ⟨⟨nc, lc, hI, hR⟩, -⟩ := id h
  have h8 := hI.1
  unfold s_6
  rcases arg_of (x := x) (n := nc) (by omega) with ⟨n, hn, rfl⟩ | hx
  · have hW : gF M (67 + 3 * n) 2 = nI (rW (gR M 4) n 160) := (rc_n hR hI hn).2.2.1
    refine ⟨G, sF 3 3 0 (oL (nI (rW (gR M 4) n 160)).toInt64 M), case_i (z := m_X6_weight 3 (nI n)) (M := oL (nI (rW (gR M 4) n 160)).toInt64 M) (v := nI (rW (gR M 4) n 160)) ?_ ?_ gF_self go_oL, h.qu (Qu.rf.oL.s3)⟩
    · unfold m_L_weight m_X5_weight
      rw [exN_ok hR hI hn, bind_s]
      show some (0, G, oL (gF M (67 + 3 * n) 2).toInt64 M) = _
      rw [hW]
    · unfold m_X6_weight
      rw [isNode_ok (M := oL (nI (rW (gR M 4) n 160)).toInt64 M) hI hn, bind_s, fine0, if_neg ne10, weightOf_ok (by omega)]
      rfl
  · refine ⟨G, sF 3 3 1 M, case_t (z := m_X6_weight 3 x) (M := M) (v := 0) (k := 1) ?_ ?_ gF_self (by decide), h.qu (Qu.rf.s3)⟩
    · unfold m_L_weight m_X5_weight
      rw [exN_no hR hI hx, bind_s]
      rfl
    · unfold m_X6_weight
      rw [isNode_no hI hx, bind_s, fine1, if_pos rfl]
/-- state -/
theorem done_16 {G : Nat → Bool} {M : Mem} {x : Int32} (h : Top G M) : ∃ G' M', s_16 x G M = some (G', M') ∧ Top G' M' := by
  obtain ⟨⟨nc, lc, hI, hR⟩, -⟩ := id h
  have h4 := hI.2.1
  unfold s_16
  rcases arg_of (x := x) (n := lc) (by omega) with ⟨l, hl, rfl⟩ | hx
  · have hC := rc_l hR hI hl
    have hL := inv_l hI hl
    refine ⟨G, sF 3 3 0 (oL (gR M 4 (2131 + 333 * l + 3)).toInt64 M), case_i (z := m_X6_state 3 (nI l)) (M := oL (gR M 4 (2131 + 333 * l + 3)).toInt64 M) (v := gR M 4 (2131 + 333 * l + 3)) ?_ ?_ gF_self go_oL, h.qu (Qu.rf.oL.s3)⟩
    · unfold m_L_state m_X5_state
      rw [exL_ok hR hI hl, bind_s]
      show some (0, G, oL (gF M (91 + 5 * l) 4).toInt64 M) = _
      rw [show gF M (91 + 5 * l) 4 = gR M 4 (2131 + 333 * l + 3) from hC.2.2.2.2.1]
    · unfold m_X6_state
      rw [isLed_ok (M := oL (gR M 4 (2131 + 333 * l + 3)).toInt64 M) hI hl, bind_s, fine0, if_neg ne10]
      show Option.bind (m_X6_of 3 (nI l) (nI 3) _) _ = _
      rw [of_ok (by omega)]
      rfl
  · refine ⟨G, sF 3 3 1 M, case_t (z := m_X6_state 3 x) (M := M) (v := 0) (k := 1) ?_ ?_ gF_self (by decide), h.qu (Qu.rf.s3)⟩
    · unfold m_L_state m_X5_state
      rw [exL_no hR hI hx, bind_s]
      rfl
    · unfold m_X6_state
      rw [isLed_no hI hx, bind_s, fine1, if_pos rfl]
/-- appended -/
theorem done_18 {G : Nat → Bool} {M : Mem} {x : Int32} (h : Top G M) : ∃ G' M', s_18 x G M = some (G', M') ∧ Top G' M' := by
  obtain ⟨⟨nc, lc, hI, hR⟩, -⟩ := id h
  have h4 := hI.2.1
  unfold s_18
  rcases arg_of (x := x) (n := lc) (by omega) with ⟨l, hl, rfl⟩ | hx
  · have hC := rc_l hR hI hl
    have hL := inv_l hI hl
    refine ⟨G, sF 3 3 0 (oL (gR M 4 (2131 + 333 * l + 4)).toInt64 M), case_i (z := m_X6_appended 3 (nI l)) (M := oL (gR M 4 (2131 + 333 * l + 4)).toInt64 M) (v := gR M 4 (2131 + 333 * l + 4)) ?_ ?_ gF_self go_oL, h.qu (Qu.rf.oL.s3)⟩
    · unfold m_L_appended m_X5_appended
      rw [exL_ok hR hI hl, bind_s]
      show some (0, G, oL (gF M (91 + 5 * l) 5).toInt64 M) = _
      rw [show gF M (91 + 5 * l) 5 = gR M 4 (2131 + 333 * l + 4) from hC.2.2.2.2.2.1]
    · unfold m_X6_appended
      rw [isLed_ok (M := oL (gR M 4 (2131 + 333 * l + 4)).toInt64 M) hI hl, bind_s, fine0, if_neg ne10]
      show Option.bind (m_X6_of 3 (nI l) (nI 4) _) _ = _
      rw [of_ok (by omega)]
      rfl
  · refine ⟨G, sF 3 3 1 M, case_t (z := m_X6_appended 3 x) (M := M) (v := 0) (k := 1) ?_ ?_ gF_self (by decide), h.qu (Qu.rf.s3)⟩
    · unfold m_L_appended m_X5_appended
      rw [exL_no hR hI hx, bind_s]
      rfl
    · unfold m_X6_appended
      rw [isLed_no hI hx, bind_s, fine1, if_pos rfl]
/-- fragmentCount -/
theorem done_21 {G : Nat → Bool} {M : Mem} {x : Int32} (h : Top G M) : ∃ G' M', s_21 x G M = some (G', M') ∧ Top G' M' := by
  obtain ⟨⟨nc, lc, hI, hR⟩, -⟩ := id h
  have h4 := hI.2.1
  unfold s_21
  rcases arg_of (x := x) (n := lc) (by omega) with ⟨l, hl, rfl⟩ | hx
  · have hC := rc_l hR hI hl
    have hL := inv_l hI hl
    refine ⟨G, sF 3 3 0 (oL (gR M 4 (2131 + 333 * l + 6)).toInt64 M), case_i (z := m_X6_fragmentCount 3 (nI l)) (M := oL (gR M 4 (2131 + 333 * l + 6)).toInt64 M) (v := gR M 4 (2131 + 333 * l + 6)) ?_ ?_ gF_self go_oL, h.qu (Qu.rf.oL.s3)⟩
    · unfold m_L_fragmentCount m_X5_fragmentCount
      rw [exL_ok hR hI hl, bind_s]
      show some (0, G, oL (gF M (91 + 5 * l) 7).toInt64 M) = _
      rw [show gF M (91 + 5 * l) 7 = gR M 4 (2131 + 333 * l + 6) from hC.2.2.2.2.2.2.2.1]
    · unfold m_X6_fragmentCount
      rw [isLed_ok (M := oL (gR M 4 (2131 + 333 * l + 6)).toInt64 M) hI hl, bind_s, fine0, if_neg ne10]
      show Option.bind (m_X6_of 3 (nI l) (nI 6) _) _ = _
      rw [of_ok (by omega)]
      rfl
  · refine ⟨G, sF 3 3 1 M, case_t (z := m_X6_fragmentCount 3 x) (M := M) (v := 0) (k := 1) ?_ ?_ gF_self (by decide), h.qu (Qu.rf.s3)⟩
    · unfold m_L_fragmentCount m_X5_fragmentCount
      rw [exL_no hR hI hx, bind_s]
      rfl
    · unfold m_X6_fragmentCount
      rw [isLed_no hI hx, bind_s, fine1, if_pos rfl]
/-- lastReadable -/
theorem done_17 {G : Nat → Bool} {M : Mem} {x : Int32} (h : Top G M) : ∃ G' M', s_17 x G M = some (G', M') ∧ Top G' M' := by
  obtain ⟨⟨nc, lc, hI, hR⟩, -⟩ := id h
  have h4 := hI.2.1
  unfold s_17
  rcases arg_of (x := x) (n := lc) (by omega) with ⟨l, hl, rfl⟩ | hx
  · have hC := rc_l hR hI hl
    have hL := inv_l hI hl
    refine ⟨G, sF 3 3 0 (oL (rRd (gR M 4) l).toInt64 M), case_i (z := m_X6_lastReadable 3 (nI l)) (M := oL (rRd (gR M 4) l).toInt64 M) (v := rRd (gR M 4) l) ?_ ?_ gF_self go_oL, h.qu (Qu.rf.oL.s3)⟩
    · unfold m_L_lastReadable m_X5_lastReadable
      rw [exL_ok hR hI hl, bind_s]
      show Option.bind (Option.bind (m_X0_lastToRead (91 + 5 * l) M) _) _ = _
      rw [cread_ok hC hL]
      rfl
    · unfold m_X6_lastReadable
      rw [isLed_ok (M := oL (rRd (gR M 4) l).toInt64 M) hI hl, bind_s, fine0, if_neg ne10]
      rw [readable_ok (by omega) (show LI (gR (sF 3 3 0 (oL (rRd (gR M 4) l).toInt64 M)) 4) nc l from hL)]
      rfl
  · refine ⟨G, sF 3 3 1 M, case_t (z := m_X6_lastReadable 3 x) (M := M) (v := 0) (k := 1) ?_ ?_ gF_self (by decide), h.qu (Qu.rf.s3)⟩
    · unfold m_L_lastReadable m_X5_lastReadable
      rw [exL_no hR hI hx, bind_s]
      rfl
    · unfold m_X6_lastReadable
      rw [isLed_no hI hx, bind_s, fine1, if_pos rfl]
/-- rejections -/
theorem done_9 {G : Nat → Bool} {M : Mem} (h : Top G M) : ∃ G' M', s_9 G M = some (G', M') ∧ Top G' M' := by
  obtain ⟨⟨nc, lc, hI, hR⟩, -⟩ := id h
  refine ⟨G, sF 3 3 0 M, ?_, h.qu Qu.rf.s3⟩
  unfold s_9 m_X6_rejections m_X5_rejections
  rw [show ck (ix 2 3463) (some (gR (sF 3 3 0 M) 4 (cl 2), sF 3 3 0 M)) = some (gR (sF 3 3 0 M) 4 (cl 2), sF 3 3 0 M) from ck_ix (k := 2) (by omega) (by omega), bind_s]
  exact if_pos hR.2.2.1
