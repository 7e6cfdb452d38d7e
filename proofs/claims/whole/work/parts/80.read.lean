theorem rSrc_some {r : Nat → Int32} {l e f n : Nat} : ∀ (d i : Nat), rSrc r l e f d i = some n → r (3 + n) = 1 ∧ r (819 + 160 * n + 40 * l + e) ≠ 0 ∧ ∃ j, n = mbf r l f ((e + j) % vf r l 0) := by
  intro d
  induction d with
  | zero => intro i h; cases h
  | succ d ih =>
    intro i h
    rw [rSrc_s] at h
    split at h
    · rename_i hq
      cases h
      exact ⟨hq.1, hq.2, i, rfl⟩
    · exact ih (i + 1) h
/-- read -/
theorem done_15 {G : Nat → Bool} {M : Mem} {x y : Int32} (h : Top G M) : ∃ G' M', s_15 x y G M = some (G', M') ∧ Top G' M' := by
  obtain ⟨⟨nc, lc, hI, hR⟩, -⟩ := id h
  have h4 := hI.2.1
  have h8 := hI.1
  unfold s_15
  rcases arg_of (x := x) (n := lc) (by omega) with ⟨l, hl, rfl⟩ | hx
  · have hC := rc_l hR hI hl
    have hL := inv_l hI hl
    by_cases hy : y < 0
    · refine ⟨G, sF 3 3 1 M, case_t (z := m_X6_read 3 (nI l) y) (M := M) (v := 0) (k := 1) ?_ ?_ gF_self (by decide), h.qu (Qu.rf.s3)⟩
      · unfold m_L_read m_X5_read
        rw [exL_ok hR hI hl, bind_s]
        show Option.bind (if (0 : Int32) ≤ y then _ else _) _ = _
        rw [if_neg (Int32.not_le.mpr hy)]
        rfl
      · unfold m_X6_read
        rw [isLed_ok hI hl, bind_s, if_neg (show ¬ (1 : Int32) = 0 by decide), if_pos hy]
        unfold m_X6_read_b17
        rw [if_pos rfl]
        unfold m_X6_read_b38
        rw [fine1, if_pos rfl]
    · obtain ⟨e, he, rfl⟩ := nI_of hy
      by_cases hq : nI e ≤ rRd (gR M 4) l
      · have he40 := rRd_lt hL he hq
        have hf := first_ok hR hI hl hC he40
        generalize hsrc : rSrc (gR M 4) l e (frg (gR M 4) l e) (vf (gR M 4) l 1) 0 = b at hf
        have hso : ∀ M', gR M' 4 = gR M 4 → m_X6_source 3 (nI l) (nI e) M' = some (on1 b) := fun M' hM => by
          rw [source_ok (M := M') (nc := nc) (lc := lc) (by rw [hM]; exact hI) hl he40, hM, hsrc]
        cases b with
        | none =>
          refine ⟨G, sF 3 3 0 (oL (-1 : Int32).toInt64 M), case_i (z := m_X6_read 3 (nI l) (nI e)) (M := oL (-1 : Int32).toInt64 M) (v := -1) ?_ ?_ gF_self go_oL, h.qu (Qu.rf.oL.s3)⟩
          · unfold m_L_read m_X5_read
            rw [exL_ok hR hI hl, bind_s]
            show Option.bind (if (0 : Int32) ≤ nI e then Option.bind (m_X0_lastToRead (91 + 5 * l) M) _ else _) _ = _
            rw [if_pos (nI_pos' he), cread_ok hC hL, bind_s, if_pos hq, hf, bind_s]
            rfl
          · unfold m_X6_read
            rw [isLed_ok (M := oL (-1 : Int32).toInt64 M) hI hl, bind_s, if_neg (show ¬ (1 : Int32) = 0 by decide), if_neg hy]
            unfold m_X6_read_b17
            rw [if_neg (show ¬ (1 : Int32) = 0 by decide), readable_ok (M := oL (-1 : Int32).toInt64 M) (by omega) hL, bind_s, show gR (oL (-1 : Int32).toInt64 M) 4 = gR M 4 from rfl, if_neg (Int32.not_lt.mpr hq)]
            unfold m_X6_read_b38
            rw [fine0, if_neg ne10, hso ((1 : Int32), sF 3 3 0 (oL (-1 : Int32).toInt64 M)).2 rfl, bind_s]
            rfl
        | some n =>
          obtain ⟨-, hv, j, hj⟩ := rSrc_some _ _ hsrc
          have hn : n < nc := by
            rw [hj]
            exact hL.2.2.2.2.2.2.2.2.2.2.1 _ _ (rFr_lt (by have := hL.2.2.2.2.2.2.1; omega)) (Nat.mod_lt _ (by have := hL.2.1; omega))
          rcases sc_at (inv_n hI hn) (show l < 4 by omega) he40 with hz | ⟨p, c, hp, hc, hpc⟩
          · exact absurd hz hv
          · have hst : cpy1 (gR M 4) l e (some n) = nI (pz l e c p) := by
              show stc l e (gR M 4 (819 + 160 * n + 40 * l + e)) = _
              rw [hpc, stc_v hp hc]
            refine ⟨G, sF 3 3 0 (oL (nI p).toInt64 M), case_i (z := m_X6_read 3 (nI l) (nI e)) (M := oL (nI p).toInt64 M) (v := nI p) ?_ ?_ gF_self go_oL, h.qu (Qu.rf.oL.s3)⟩
            · unfold m_L_read m_X5_read
              rw [exL_ok hR hI hl, bind_s]
              show Option.bind (if (0 : Int32) ≤ nI e then Option.bind (m_X0_lastToRead (91 + 5 * l) M) _ else _) _ = _
              rw [if_pos (nI_pos' he), cread_ok hC hL, bind_s, if_pos hq, hf, bind_s, hst, if_neg (nI_m1 (pz_lt (by omega) (by omega) (by omega) (by omega))), pz_p (by omega) (by omega) (by omega) (by omega)]
              rfl
            · unfold m_X6_read
              rw [isLed_ok (M := oL (nI p).toInt64 M) hI hl, bind_s, if_neg (show ¬ (1 : Int32) = 0 by decide), if_neg hy]
              unfold m_X6_read_b17
              rw [if_neg (show ¬ (1 : Int32) = 0 by decide), readable_ok (M := oL (nI p).toInt64 M) (by omega) hL, bind_s, show gR (oL (nI p).toInt64 M) 4 = gR M 4 from rfl, if_neg (Int32.not_lt.mpr hq)]
              unfold m_X6_read_b38
              rw [fine0, if_neg ne10, hso ((1 : Int32), sF 3 3 0 (oL (nI p).toInt64 M)).2 rfl, bind_s, if_neg (show ¬ on1 (some n) = -1 from nI_m1 (by omega)), show on1 (some n) = nI n from rfl, payloadAt_ok (by omega), bind_s]
              show some (gR M 4 (819 + 160 * n + 40 * l + e) / 64 - 1, _) = _
              rw [hpc, show (64 : Int32) = nI 64 from rfl, nI_div (by omega) (by omega), nI_sub1 (by omega), show (64 * (p + 1) + c) / 64 - 1 = p by omega]
      · skip
        refine ⟨G, sF 3 3 2 M, case_t (z := m_X6_read 3 (nI l) (nI e)) (M := M) (v := 0) (k := 2) ?_ ?_ gF_self (by decide), h.qu (Qu.rf.s3)⟩
        · unfold m_L_read m_X5_read
          rw [exL_ok hR hI hl, bind_s]
          show Option.bind (if (0 : Int32) ≤ nI e then Option.bind (m_X0_lastToRead (91 + 5 * l) M) _ else _) _ = _
          rw [if_pos (nI_pos' he), cread_ok hC hL, bind_s, if_neg hq]
          rfl
        · unfold m_X6_read
          rw [isLed_ok hI hl, bind_s, if_neg (show ¬ (1 : Int32) = 0 by decide), if_neg hy]
          unfold m_X6_read_b17
          rw [if_neg (show ¬ (1 : Int32) = 0 by decide), readable_ok (by omega) hL, bind_s, if_pos (Int32.not_le.mp hq)]
          unfold m_X6_read_b38
          rw [fine2, if_pos rfl]
  · refine ⟨G, sF 3 3 1 M, case_t (z := m_X6_read 3 x y) (M := M) (v := 0) (k := 1) ?_ ?_ gF_self (by decide), h.qu (Qu.rf.s3)⟩
    · unfold m_L_read m_X5_read
      rw [exL_no hR hI hx, bind_s]
      rfl
    · unfold m_X6_read
      rw [isLed_no hI hx, bind_s, if_pos rfl]
      unfold m_X6_read_b17
      rw [if_pos rfl]
      unfold m_X6_read_b38
      rw [fine1, if_pos rfl]
