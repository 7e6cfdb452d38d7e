/-- restart -/
theorem go_of {M M' : Mem} (h : M'.2.2 = M.2.2) : go M' = go M := by
  show M'.2.2.2.1 = M.2.2.2.1
  rw [h]
theorem up_NI {r : Nat → Int32} {lc n : Nat} (hn : n < 8) (h4 : lc ≤ 4) (h : NIv r lc n) : NIv (upd r (3 + n) 1) lc n := by
  have hne : ∀ i, i ≠ 3 + n → upd r (3 + n) 1 i = r i := fun i hi => upd_n hi
  obtain ⟨h0, ⟨w, hw, h1, h2, h3⟩, h5, h6⟩ := h
  have hm : ∀ k, k < lc → vf r k 4 ≤ vf (upd r (3 + n) 1) k 4 := fun k hk => Nat.le_of_eq (by
    show cl (r _) = cl (upd r (3 + n) 1 _)
    rw [hne _ (by omega)])
  refine ⟨Or.inr upd_s, ⟨w, hw, by rw [hne _ (by omega)]; exact h1, fun q => absurd (upd_s.symm.trans q) (by decide), fun i hi => ?_⟩, fun k hk => ?_, fun l hl => ?_⟩
  · rw [hne _ (by omega)]; exact (h3 i hi).mono (Nat.le_refl _) hm
  · rw [hne _ (by omega)]; exact h5 k hk
  · rw [hne _ (by omega)]; exact h6 l hl
theorem up_CN {M : Mem} {r : Nat → Int32} {a n : Nat} (hn : n < 8) (h : CN M a r n) : CN (sF a 0 1 M) a (upd r (3 + n) 1) n := by
  have hne : ∀ i, i ≠ 3 + n → upd r (3 + n) 1 i = r i := fun i hi => upd_n hi
  obtain ⟨h0, ⟨m, hm, h1, h1'⟩, h2, h3, h4, h5⟩ := h
  refine ⟨by rw [gF_self, upd_s], ⟨m, hm, by rw [gF_ne (by decide)]; exact h1, fun l hl => by rw [hne _ (by omega)]; exact h1' l hl⟩, ?_, ?_, fun l e hl he => ?_, fun i hi h100 => ?_⟩
  · rw [gF_ne (by decide), h2, rW_congr (r := r) (fun j hj => hne _ (by omega))]
  · rw [gF_ne (by decide), h3, hne _ (by omega)]
  · rw [gR_sF, h4 l e hl he, hne _ (by omega)]
  · rw [hne _ (by omega)] at hi
    rw [gR_sF, h5 i hi h100, hne _ (by omega)]
theorem done_2 {G : Nat → Bool} {M : Mem} {x : Int32} (h : Top G M) : ∃ G' M', s_2 x G M = some (G', M') ∧ Top G' M' := by
  obtain ⟨nc, lc, G1, M1, hI, hR, e1, hR1, hm1, hr1, hk⟩ := begin_mut h
  have h8 := hI.1
  have h4 := hI.2.1
  unfold s_2
  rcases arg_of (x := x) (n := nc) (by omega) with ⟨n, hn, rfl⟩ | hx
  · have hC := rc_n hR hI hn
    rcases up01 hI hn with hu | hu
    · have hC1 := rc_n hR1 hI hn
      have hne : ∀ i, i ≠ 3 + n → upd (gR M 4) (3 + n) 1 i = gR M 4 i := fun i hi => upd_n hi
      obtain ⟨M3, e3, b4, b3, b5, b1, hfin⟩ := hk (sF 3 3 0 (oL (nI (rW (gR M 4) n 160)).toInt64 (sF (67 + 3 * n) 0 1 M1))) ((Qb.rf.fb (Fb.rf.sF (by omega))).qu (Qu.rf.oL.s3)) (fun l hl => by
        show gF (sF 3 3 0 (sF (67 + 3 * n) 0 1 M1)) _ 0 = _
        rw [gF_sF_ne (by omega), gF_sF_ne (by omega)]; exact hm1 l hl)
      have hW : rW (upd (gR M 4) (3 + n) 1) n 160 = rW (gR M 4) n 160 := rW_congr (fun j hj => hne _ (by omega))
      refine ⟨G1, sR 4 (upd (gR M 4) (3 + n) 1) M3, case_i (z := m_X6_restart 3 (nI n)) (M := oL (nI (rW (gR M 4) n 160)).toInt64 (sF (67 + 3 * n) 0 1 M1)) (v := nI (rW (gR M 4) n 160)) ?_ ?_ (b3.trans gF_self) ?_, hfin _ nc lc Q4.rf.row ?_ ?_⟩
      · unfold m_L_restart m_X5_restart
        rw [exN_ok hR hI hn, bind_s]
        show Option.bind (if gF M (67 + 3 * n) 0 = 0 then _ else _) _ = _
        rw [show gF M (67 + 3 * n) 0 = 0 from hC.1.trans hu, if_pos rfl, e1, bind_s]
        show some (0, G1, oL (gF (sF (67 + 3 * n) 0 1 M1) (67 + 3 * n) 2).toInt64 (sF (67 + 3 * n) 0 1 M1)) = _
        rw [gF_ne (by decide), show gF M1 (67 + 3 * n) 2 = nI (rW (gR M 4) n 160) from hC1.2.2.1]
      · have hI2 : Inv (gR (oL (nI (rW (gR M 4) n 160)).toInt64 (sF (67 + 3 * n) 0 1 M1)) 4) nc lc := by
          show Inv (gR M1 4) nc lc
          rw [hr1]; exact hI
        unfold m_X6_restart
        rw [isNode_ok hI2 hn, bind_s, bind_s, if_neg (show ¬ (1 : Int32) = 0 by decide), isUp_ok (by omega), bind_s]
        show (if (if gR M1 4 (3 + n) = 1 then (1 : Int32) else 0) = 0 then _ else _) = _
        rw [hr1, hu, if_neg (show ¬ (0 : Int32) = 1 by decide), if_pos rfl]
        unfold m_X6_restart_b27
        rw [fine0, if_neg ne10, e3, bind_s, Ln 3, nI_add, ck_ix (by omega) (by omega), aI_nI (by omega), b4, weightOf_ok (by omega), bind_s, gR_self, hW]
      · show go (sR 4 _ M3) 0 = _
        rw [show go (sR 4 (upd (gR M 4) (3 + n) 1) M3) = go M3 from rfl, go_of b5]
        exact go_oL
      · rw [gR_self]
        exact hI.node hn (fun i hi => hne i (by unfold nIx at hi; omega)) (up_NI (by omega) h4 (inv_n hI hn))
      · rw [gR_self]
        exact RC.qu (by omega) (Qu.rf.oL.s3) (RC.node hR1 hI hn (Fc.rf.sF (by omega)) (fun i hi => hne i (by unfold nIx at hi; omega)) (up_CN (by omega) hC1))
    · refine ⟨G, sF 3 3 2 M, case_t (z := m_X6_restart 3 (nI n)) (M := M) (v := 0) (k := 2) ?_ ?_ gF_self (by decide), h.qu (Qu.rf.s3)⟩
      · unfold m_L_restart m_X5_restart
        rw [exN_ok hR hI hn, bind_s]
        show Option.bind (if gF M (67 + 3 * n) 0 = 0 then _ else _) _ = _
        rw [show gF M (67 + 3 * n) 0 = 1 from hC.1.trans hu, if_neg (by decide)]
        rfl
      · unfold m_X6_restart
        rw [isNode_ok hI hn, bind_s, bind_s, if_neg (show ¬ (1 : Int32) = 0 by decide), isUp_ok (by omega), bind_s, hu, if_pos (show (1 : Int32) = 1 from rfl), if_neg (show ¬ (1 : Int32) = 0 by decide)]
        unfold m_X6_restart_b27
        rw [fine2, if_pos rfl]
  · refine ⟨G, sF 3 3 1 M, case_t (z := m_X6_restart 3 x) (M := M) (v := 0) (k := 1) ?_ ?_ gF_self (by decide), h.qu (Qu.rf.s3)⟩
    · unfold m_L_restart m_X5_restart
      rw [exN_no hR hI hx, bind_s]
      rfl
    · unfold m_X6_restart
      rw [isNode_no hI hx, bind_s, bind_s, if_pos rfl]
      unfold m_X6_restart_b27
      rw [fine1, if_pos rfl]
