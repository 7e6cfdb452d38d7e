/-- addNode -/
theorem aI_0 {q : Nat} {v : Int32} {M : Mem} : aI q 0 v M = sR q (upd (gR M q) 0 v) M := aI_nI (k := 0) (by omega)
theorem done_0 {G : Nat → Bool} {M : Mem} (h : Top G M) : ∃ G' M', s_0 G M = some (G', M') ∧ Top G' M' := by
  obtain ⟨nc, lc, G1, M1, hI, hR, e1, hR1, hm1, hr1, hk⟩ := begin_mut h
  have h8 := hI.1
  unfold s_0
  by_cases hn : nc = 8
  · refine ⟨G, sF 3 3 1 M, case_t (z := m_X6_addNode 3) (M := M) (v := 0) (k := 1) ?_ ?_ gF_self (by decide), h.qu (Qu.rf.s3)⟩
    · unfold m_L_addNode m_X5_addNode
      rw [rc_nc hR hI, hn, if_neg (by decide), bind_s]
      rfl
    · unfold m_X6_addNode
      rw [ck_0 (by omega), cl_0, hI.2.2.1, hn, if_pos (show nI 8 = 8 from rfl)]
      unfold m_X6_addNode_b17
      rw [gF_self, if_neg (by decide)]
  · obtain ⟨M2, e2, c1, c2, c3⟩ := begN_ok (B := 64) (by omega) (by omega) hI hR1
    obtain ⟨M3, e3, b4, b3, b5, b1, hfin⟩ := hk (sF 3 3 0 (oL (nI nc).toInt64 M2)) ((Qb.rf.fb c2).qu (Qu.rf.oL.s3)) (fun l hl => by
      show gF (sF 3 3 0 M2) _ 0 = _
      rw [gF_sF_ne (by omega), c3]; exact hm1 l hl)
    refine ⟨G1, sR 4 (rAdd (gR M 4) nc) M3, case_i (z := m_X6_addNode 3) (M := oL (nI nc).toInt64 M2) (v := nI nc) ?_ ?_ (b3.trans gF_self) ?_, hfin _ (nc + 1) lc Q4.rf.row ?_ ?_⟩
    · unfold m_L_addNode m_X5_addNode
      rw [rc_nc hR hI, if_pos (show nI nc < 8 from nI_lt (b := 8) (by omega) (by omega)), e1, bind_s, e2, bind_s, bind_s]
      rfl
    · have hr2 : gR (oL (nI nc).toInt64 M2) 4 = gR M 4 := ((c2.1 4 (by omega)).2).trans hr1
      unfold m_X6_addNode
      rw [ck_0 (by omega), cl_0, hr2, hI.2.2.1, if_neg (show ¬ nI nc = 8 from nI_ne (b := 8) (by omega) (by omega) hn)]
      unfold m_X6_addNode_b17
      rw [gF_self, if_pos (by decide), e3, bind_s, b4, cl_0, hI.2.2.1, Ln 3, nI_add, ck_0 (by omega), ck_ix (by omega) (by omega), ck_0 (by omega), ck_0 (by omega), ck_0 (by omega), aI_nI (by omega), b4, gR_self, upd_n (by omega), hI.2.2.1, nI_1, aI_0, gR_self, gR_self, upd_s, sR_sR, nI_sub1 (by omega), Nat.add_sub_cancel]
      rfl
    · show go (sR 4 _ M3) 0 = _
      rw [show go (sR 4 (rAdd (gR M 4) nc) M3) = go M3 from rfl, go_of b5]
      exact go_oL
    · rw [gR_self]
      exact add_Inv (by omega) hI
    · rw [gR_self]
      exact RC.qu (by omega) (Qu.rf.oL.s3) c1
