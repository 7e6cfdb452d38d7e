/-! deliver -/
theorem proc_none {M : Mem} {B nc lc n : Nat} {r : Nat → Int32} (hR : RC B r M) (hI : Inv r nc lc) (hn : n < nc) (hw : r (11 + n) = 0) : m_X3_processOldest B (nI n) M = some (-1, M) := by
  have h3 : gF M (B + 3 + 3 * n) 3 = 0 := (rc_n hR hI hn).2.2.2.1.trans hw
  unfold m_X3_processOldest m_X1_takeOldest
  rw [node_ok hR hI hn, bind_s, on_sm, h3, if_pos (show (0 : Int32) < 1 by decide), bind_s]
  exact if_pos rfl
theorem wait_of {nc lc n : Nat} {r : Nat → Int32} (hI : Inv r nc lc) (hn : n < nc) : r (11 + n) = 0 ∨ ∃ w, w < 100 ∧ r (11 + n) = nI (w + 1) := by
  obtain ⟨-, ⟨w, hw, k1, -, -⟩, -⟩ := inv_n hI hn
  rcases Nat.eq_zero_or_pos w with hz | hz
  · exact Or.inl (by rw [k1, hz]; rfl)
  · exact Or.inr ⟨w - 1, by omega, by rw [k1, Nat.sub_add_cancel hz]⟩
theorem done_3 {G : Nat → Bool} {M : Mem} {x : Int32} (h : Top G M) : ∃ G' M', s_3 x G M = some (G', M') ∧ Top G' M' := by
  obtain ⟨nc, lc, G1, M1, hI, hR, e1, hR1, hm1, hr1, hk⟩ := begin2 h
  have h8 := hI.1
  unfold s_3
  rcases arg_of (x := x) (n := nc) (by omega) with ⟨n, hn, rfl⟩ | hx
  · have hC := rc_n hR hI hn
    rcases up01 hI hn with hu | hu
    · refine ⟨G, sF 3 3 2 M, case_t (z := m_X6_deliver 3 (nI n)) (M := M) (v := 0) (k := 2) ?_ ?_ gF_self (by decide), h.qu (Qu.rf.s3)⟩
      · unfold m_L_deliver m_X5_deliver
        rw [exN_ok hR hI hn, bind_s]
        show Option.bind (if gF M (67 + 3 * n) 0 = 0 then _ else _) _ = _
        rw [show gF M (67 + 3 * n) 0 = 0 from hC.1.trans hu, if_pos rfl]
        rfl
      · unfold m_X6_deliver
        rw [isNode_ok hI hn, bind_s, bind_s, if_neg (show ¬ (1 : Int32) = 0 by decide), isUp_ok (by omega), bind_s, hu, if_neg (show ¬ (0 : Int32) = 1 by decide), if_pos rfl]
        unfold m_X6_deliver_b27
        rw [fine2, if_pos rfl]
    · have hcl : ∀ v Mc, m_X3_processOldest 64 (nI n) M1 = some (v, Mc) → m_L_deliver (nI n) G M = some (0, G1, oL v.toInt64 Mc) := fun v Mc hv => by
        unfold m_L_deliver m_X5_deliver
        rw [exN_ok hR hI hn, bind_s]
        show Option.bind (if gF M (67 + 3 * n) 0 = 0 then _ else _) _ = _
        rw [show gF M (67 + 3 * n) 0 = 1 from hC.1.trans hu, if_neg (show ¬ (1 : Int32) = 0 by decide), e1, bind_s, hv]
        rfl
      rcases wait_of hI hn with hw | ⟨w, hw1, hw⟩
      · obtain ⟨h4', M3, e3, b4, b3, b5, hT⟩ := hk M1 (sF 3 3 0 (oL (-1 : Int32).toInt64 M1)) (gR M 4) nc lc Fg.rf (Qu.rf.oL.s3) hR1 hI
        refine ⟨G1, sR 4 (gR M 4) M3, case_i (z := m_X6_deliver 3 (nI n)) (M := oL (-1 : Int32).toInt64 M1) (v := -1) (hcl _ _ (proc_none hR1 hI hn hw)) ?_ (b3.trans gF_self) ?_, hT⟩
        · unfold m_X6_deliver
          rw [isNode_ok (M := oL (-1 : Int32).toInt64 M1) (nc := nc) (lc := lc) (show Inv (gR M1 4) nc lc by rw [hr1]; exact hI) hn, bind_s, bind_s, if_neg (show ¬ (1 : Int32) = 0 by decide), isUp_ok (by omega), bind_s]
          show (if (if gR M1 4 (3 + n) = 1 then (1 : Int32) else 0) = 0 then _ else _) = _
          rw [hr1, hu, if_pos (show (1 : Int32) = 1 from rfl), if_neg (show ¬ (1 : Int32) = 0 by decide)]
          unfold m_X6_deliver_b27
          rw [fine0, if_neg ne10, e3, bind_s, Ln 11, nI_add, ck_ix (by omega) (by omega), cl_nI (by omega), b4, hw, if_pos rfl, ← b4, sR_id]
        · show go (sR 4 _ M3) 0 = _
          rw [show go (sR 4 (gR M 4) M3) = go M3 from rfl, go_of b5]
          exact go_oL
      · obtain ⟨v, r', -, hI', -, -, -, hp, hc⟩ := proc_both hI hn hu hw hw1
        obtain ⟨Mc, ec, hRc, hFc⟩ := hc 64 M1 (by omega) hR1
        obtain ⟨h4', M3, e3, b4, b3, b5, hT⟩ := hk Mc (sF 3 3 0 (oL v.toInt64 Mc)) r' nc lc hFc (Qu.rf.oL.s3) hRc hI'
        have hrc : gR (oL v.toInt64 Mc) 4 = gR M 4 := h4'
        refine ⟨G1, sR 4 r' M3, case_i (z := m_X6_deliver 3 (nI n)) (M := oL v.toInt64 Mc) (v := v) (hcl _ _ ec) ?_ (b3.trans gF_self) ?_, hT⟩
        · unfold m_X6_deliver
          rw [isNode_ok (nc := nc) (lc := lc) (by rw [hrc]; exact hI) hn, bind_s, bind_s, if_neg (show ¬ (1 : Int32) = 0 by decide), isUp_ok (by omega), bind_s, hrc, hu, if_pos (show (1 : Int32) = 1 from rfl), if_neg (show ¬ (1 : Int32) = 0 by decide)]
          unfold m_X6_deliver_b27
          rw [fine0, if_neg ne10, e3, bind_s, Ln 11, nI_add, ck_ix (by omega) (by omega), cl_nI (by omega), b4, hw, if_neg (nI_ne0 (by omega) (by omega)), hp M3 b4]
          rfl
        · show go (sR 4 _ M3) 0 = _
          rw [show go (sR 4 r' M3) = go M3 from rfl, go_of b5]
          exact go_oL
  · refine ⟨G, sF 3 3 1 M, case_t (z := m_X6_deliver 3 x) (M := M) (v := 0) (k := 1) ?_ ?_ gF_self (by decide), h.qu (Qu.rf.s3)⟩
    · unfold m_L_deliver m_X5_deliver
      rw [exN_no hR hI hx, bind_s]
      rfl
    · unfold m_X6_deliver
      rw [isNode_no hI hx, bind_s, bind_s, if_pos rfl]
      unfold m_X6_deliver_b27
      rw [fine1, if_pos rfl]
