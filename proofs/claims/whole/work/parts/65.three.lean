/-- both answer the same truth -/
theorem case_z {G1 : Nat → Bool} {M M1 : Mem} {w : Option (Int32 × (Nat → Bool) × Mem)} {z : Mem → Option (Int32 × Mem)} {v : Int32} (hw : w = some (0, G1, M)) (hz : z M = some (v, M1)) (hk : gF M1 3 3 = 0) (hv : go M1 0 = i2 v) : (Option.bind w fun w => Option.bind (z w.2.2) fun z => if m_X6_thrown 3 z.2 = w.1 then (if w.1 = 0 then (if go z.2 0 = i2 z.1 then some (w.2.1, z.2) else none) else some (w.2.1, z.2)) else none) = some (G1, M1) := by
  rw [hw, bind_s]
  show Option.bind (z M) _ = _
  rw [hz, bind_s]
  show (if gF M1 3 3 = 0 then (if (0 : Int32) = 0 then (if go M1 0 = i2 v then some (G1, M1) else none) else some (G1, M1)) else none) = _
  rw [if_pos hk, if_pos rfl, if_pos hv]
theorem case_tz {G : Nat → Bool} {M M1 : Mem} {w : Option (Int32 × (Nat → Bool) × Mem)} {z : Mem → Option (Int32 × Mem)} {k v : Int32} (hw : w = some (k, G, M)) (hz : z M = some (v, M1)) (hk : gF M1 3 3 = k) (h0 : k ≠ 0) : (Option.bind w fun w => Option.bind (z w.2.2) fun z => if m_X6_thrown 3 z.2 = w.1 then (if w.1 = 0 then (if go z.2 0 = i2 z.1 then some (w.2.1, z.2) else none) else some (w.2.1, z.2)) else none) = some (G, M1) := by
  rw [hw, bind_s]
  show Option.bind (z M) _ = _
  rw [hz, bind_s]
  show (if gF M1 3 3 = k then (if k = 0 then _ else some (G, M1)) else none) = _
  rw [if_pos hk, if_neg h0]
/-- isFenced -/
theorem done_8 {G : Nat → Bool} {M : Mem} {x y : Int32} (h : Top G M) : ∃ G' M', s_8 x y G M = some (G', M') ∧ Top G' M' := by
  obtain ⟨⟨nc, lc, hI, hR⟩, -⟩ := id h
  have h4 := hI.2.1
  have h8 := hI.1
  unfold s_8
  rcases arg_of (x := x) (n := nc) (by omega) with ⟨n, hn, rfl⟩ | hx
  · have hC := rc_n hR hI hn
    rcases arg_of (x := y) (n := lc) (by omega) with ⟨l, hl, rfl⟩ | hy
    · have hf := (inv_n hI hn).2.2.2 l (by omega)
      refine ⟨G, sF 3 3 0 (oL (i2 (gR M 4 (2099 + 4 * n + l))) M), case_z (z := m_X6_isFenced 3 (nI n) (nI l)) (M := oL (i2 (gR M 4 (2099 + 4 * n + l))) M) (v := gR M 4 (2099 + 4 * n + l)) ?_ ?_ gF_self go_oL, h.qu (Qu.rf.oL.s3)⟩
      · unfold m_L_isFenced m_X5_isFenced
        rw [exN_ok hR hI hn, bind_s]
        show Option.bind (Option.bind (m_X5_existingLedger 0 (nI l) M) _) _ = _
        rw [exL_ok hR hI hl, bind_s]
        show Option.bind (Option.bind (m_X1_isFencedFor (67 + 3 * n) (nI l) M) _) _ = _
        rw [fenced_ok hC (by omega), bind_s, ck_t hf]
        rfl
      · unfold m_X6_isFenced
        rw [isNode_ok (M := oL (i2 (gR M 4 (2099 + 4 * n + l))) M) hI hn, bind_s, if_neg (show ¬ (1 : Int32) = 0 by decide), isLed_ok (M := oL (i2 (gR M 4 (2099 + 4 * n + l))) M) hI hl, bind_s, if_neg (show ¬ (1 : Int32) = 0 by decide)]
        unfold m_X6_isFenced_b22
        rw [fine0, if_neg ne10, Ln 2099, Ln 4, nI_mul, nI_add, nI_add, ck_ix (by omega) (by omega), cl_nI (by omega)]
        show (if gR M 4 (2099 + 4 * n + l) = 1 then _ else _) = _
        rcases hf with hf | hf
        · rw [hf, if_neg (by decide)]
        · rw [hf, if_pos rfl]
    · refine ⟨G, sF 3 3 1 M, case_tz (z := m_X6_isFenced 3 (nI n) y) (M := M) (v := 0) (k := 1) ?_ ?_ gF_self (by decide), h.qu (Qu.rf.s3)⟩
      · unfold m_L_isFenced m_X5_isFenced
        rw [exN_ok hR hI hn, bind_s]
        show Option.bind (Option.bind (m_X5_existingLedger 0 y M) _) _ = _
        rw [exL_no hR hI hy, bind_s]
        rfl
      · unfold m_X6_isFenced
        rw [isNode_ok hI hn, bind_s, if_neg (show ¬ (1 : Int32) = 0 by decide), isLed_no hI hy, bind_s, if_pos rfl]
        unfold m_X6_isFenced_b22
        rw [fine1, if_pos rfl]
  · refine ⟨G, sF 3 3 1 M, case_tz (z := m_X6_isFenced 3 x y) (M := M) (v := 0) (k := 1) ?_ ?_ gF_self (by decide), h.qu (Qu.rf.s3)⟩
    · unfold m_L_isFenced m_X5_isFenced
      rw [exN_no hR hI hx, bind_s]
      rfl
    · unfold m_X6_isFenced
      rw [isNode_no hI hx, bind_s, if_pos rfl]
      unfold m_X6_isFenced_b22
      rw [fine1, if_pos rfl]
/-- member -/
theorem done_23 {G : Nat → Bool} {M : Mem} {x y w : Int32} (h : Top G M) : ∃ G' M', s_23 x y w G M = some (G', M') ∧ Top G' M' := by
  obtain ⟨⟨nc, lc, hI, hR⟩, -⟩ := id h
  have h4 := hI.2.1
  have h8 := hI.1
  unfold s_23
  rcases arg_of (x := x) (n := lc) (by omega) with ⟨l, hl, rfl⟩ | hx
  · have hC := rc_l hR hI hl
    have hL := inv_l hI hl
    have h40 : vf (gR M 4) l 6 ≤ 41 := hL.2.2.2.2.2.2.1.2
    have h5 : vf (gR M 4) l 0 ≤ 5 := hL.2.1.2
    have hE : gF M (91 + 5 * l) 1 = nI (vf (gR M 4) l 0) := by rw [hC.2.1, hL.1 0 (by omega) (by omega)]
    rcases arg_of (x := y) (n := vf (gR M 4) l 6) (by omega) with ⟨f, hf, rfl⟩ | hy
    · rcases arg_of (x := w) (n := vf (gR M 4) l 0) (by omega) with ⟨p, hp, rfl⟩ | hw
      · refine ⟨G, sF 3 3 0 (oL (nI (mbf (gR M 4) l f p)).toInt64 M), case_i (z := m_X6_member 3 (nI l) (nI f) (nI p)) (M := oL (nI (mbf (gR M 4) l f p)).toInt64 M) (v := nI (mbf (gR M 4) l f p)) ?_ ?_ gF_self go_oL, h.qu (Qu.rf.oL.s3)⟩
        · unfold m_L_member m_X5_member
          rw [exL_ok hR hI hl, bind_s]
          show Option.bind (Option.bind (m_X5_requireFragment (91 + 5 * l) (nI f) M) _) _ = _
          rw [rqF_ok hC hL hf, bind_s]
          show Option.bind (if nI p < 0 then _ else if nI p < gF M (91 + 5 * l) 1 then Option.bind (m_X0_nodeAt (91 + 5 * l) (nI f) (nI p) M) _ else _) _ = _
          rw [if_neg (nI_pos (by omega)), hE, if_pos (nI_lt hp (by omega)), nodeAt_ok hC hL hf hp]
          rfl
        · unfold m_X6_member
          rw [isFra_ok (M := oL (nI (mbf (gR M 4) l f p)).toInt64 M) hI hl hf, bind_s, if_neg (show ¬ (1 : Int32) = 0 by decide), show m_X6_of 3 (nI l) 0 (oL (nI (mbf (gR M 4) l f p)).toInt64 M) = some (gR M 4 (2131 + 333 * l + 0)) from of_ok (w := 0) (M := oL (nI (mbf (gR M 4) l f p)).toInt64 M) (by omega), bind_s, hL.1 0 (by omega) (by omega), in_ok hp (by omega), if_neg (show ¬ (1 : Int32) = 0 by decide)]
          unfold m_X6_member_b30
          rw [fine0, if_neg ne10, memberOf_ok (by omega), bind_s]
          show some (gR M 4 (2131 + 333 * l + (128 + 5 * f + p)), _) = _
          rw [hL.1 (128 + 5 * f + p) (by omega) (by omega)]
      · refine ⟨G, sF 3 3 1 M, case_t (z := m_X6_member 3 (nI l) (nI f) w) (M := M) (v := 0) (k := 1) ?_ ?_ gF_self (by decide), h.qu (Qu.rf.s3)⟩
        · unfold m_L_member m_X5_member
          rw [exL_ok hR hI hl, bind_s]
          show Option.bind (Option.bind (m_X5_requireFragment (91 + 5 * l) (nI f) M) _) _ = _
          rw [rqF_ok hC hL hf, bind_s]
          show Option.bind (if w < 0 then _ else if w < gF M (91 + 5 * l) 1 then Option.bind (m_X0_nodeAt (91 + 5 * l) (nI f) w M) _ else _) _ = _
          by_cases h0 : w < 0
          · rw [if_pos h0]; rfl
          · rw [if_neg h0, hE, if_neg (Int32.not_lt.mpr (hw.resolve_left h0))]; rfl
        · unfold m_X6_member
          rw [isFra_ok hI hl hf, bind_s, if_neg (show ¬ (1 : Int32) = 0 by decide), show m_X6_of 3 (nI l) 0 M = some (gR M 4 (2131 + 333 * l + 0)) from of_ok (w := 0) (by omega), bind_s, hL.1 0 (by omega) (by omega), in_no (by omega) hw, if_pos rfl]
          unfold m_X6_member_b30
          rw [fine1, if_pos rfl]
    · refine ⟨G, sF 3 3 1 M, case_t (z := m_X6_member 3 (nI l) y w) (M := M) (v := 0) (k := 1) ?_ ?_ gF_self (by decide), h.qu (Qu.rf.s3)⟩
      · unfold m_L_member m_X5_member
        rw [exL_ok hR hI hl, bind_s]
        show Option.bind (Option.bind (m_X5_requireFragment (91 + 5 * l) y M) _) _ = _
        rw [rqF_no hC hL hy, bind_s]
        rfl
      · unfold m_X6_member
        rw [isFra_out hI hl hy, bind_s, if_pos rfl]
        unfold m_X6_member_b30
        rw [fine1, if_pos rfl]
  · refine ⟨G, sF 3 3 1 M, case_t (z := m_X6_member 3 x y w) (M := M) (v := 0) (k := 1) ?_ ?_ gF_self (by decide), h.qu (Qu.rf.s3)⟩
    · unfold m_L_member m_X5_member
      rw [exL_no hR hI hx, bind_s]
      rfl
    · unfold m_X6_member
      rw [isFra_no hI hx, bind_s, if_pos rfl]
      unfold m_X6_member_b30
      rw [fine1, if_pos rfl]
