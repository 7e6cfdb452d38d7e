/-! replace -/
section RPL
variable {nc lc l n : Nat} {r : Nat → Int32}
theorem rp_both {pos : Nat} (hI : Inv r nc lc) (hl : l < lc) (h0 : vf r l 3 = 0) (hpos : pos < vf r l 0) (hch : rCh r (orB (mbf r l (vf r l 6 - 1)) (vf r l 0)) nc = some n) : ∃ r', Inv r' nc lc ∧
    (∀ M, gR M 4 = r → Option.bind (m_X6_confirmed 3 (nI l) M) (fun z10 => Option.bind (m_X6_memberOf 3 (nI l) (nI (vf r l 6 - 1)) (nI pos) M) fun z12 => Option.bind (m_X6_of 3 (nI l) (87 + nI (vf r l 6 - 1)) M) fun z14 => if z14 = z10 + 1 then m_X6_replace_b214 3 (nI l) (nI pos) (nI (vf r l 6 - 1)) (nI n) z10 (z10 + 1) z12 M else m_X6_replace_L149 3 (nI l) (nI pos) fuel (nI (vf r l 6 - 1)) (nI n) z10 (z10 + 1) z12 0 M) = some (nI n, sR 4 r' M)) ∧
    ∀ M, RC 64 r M → ∃ M', RC 64 r' M' ∧ Fg 64 M M' ∧ m_X3_changeEnsemble 64 (64 + 27 + 5 * l) (nI pos) (nI n) M = some M' := by
  have h8 := hI.1
  have h4 := hI.2.1
  have hL := inv_l hI hl
  have hE := hL.2.1
  have hW := hL.2.2.1
  have hA := hL.2.2.2.1
  have h40 := hL.2.2.2.2.2.1
  have hF := hL.2.2.2.2.2.2.1
  have hk := hL.2.2.2.2.2.2.2.2.2.2.2.2.1
  have hb4 := hL.2.2.2.2.2.2.2.2.2.2.2.2.2.2.1 h0
  have hse := hL.2.2.2.2.2.2.2.2.2.1
  have hmm := hL.2.2.2.2.2.2.2.2.2.2.1
  obtain ⟨f, hf⟩ : ∃ f, f + 1 = vf r l 6 := ⟨vf r l 6 - 1, by omega⟩
  rw [show vf r l 6 - 1 = f by omega] at hch hb4 hse ⊢
  have hc := rCf_le (r := r) (l := l)
  have hold : mbf r l f pos < 8 := Nat.lt_of_lt_of_le (hmm f pos (by omega) hpos) h8
  obtain ⟨hn, hnb⟩ := ch_new hch
  have hlead : ∀ e, e < rCf r l → vf r l 2 ≤ pc (vf r l (47 + e)) := fun e he => of_decide_eq_true (lead_q (q := fun e => decide (vf r l 2 ≤ pc (vf r l (47 + e)))) (vf r l 4) 0 e (Nat.zero_le _) he)
  have hsc : vf r l (87 + f) ≤ rCf r l := by
    rcases lead_ge (q := fun e => decide (vf r l 2 ≤ pc (vf r l (47 + e)))) (vf r l 4) 0 (vf r l (87 + f)) (by omega) (fun k _ hk2 => decide_eq_true (hb4 k hk2)) with h | h
    · exact h
    · omega
  have href : ∀ M, gR M 4 = r → m_X6_confirmed 3 (nI l) M = some (nI (rCf r l) - 1) ∧ m_X6_memberOf 3 (nI l) (nI f) (nI pos) M = some (nI (mbf r l f pos)) ∧ m_X6_of 3 (nI l) (87 + nI f) M = some (nI (vf r l (87 + f))) := fun M hM => by
    subst hM
    refine ⟨conf_ok (by omega) hL.1 h40 (by omega) hk, by rw [memberOf_ok (by omega), hL.1 (128 + 5 * f + pos) (by omega) (by omega)], ?_⟩
    rw [show (87 : Int32) = nI 87 from rfl, nI_add]
    exact of_o (w := 87 + f) hI hl (by omega) (by omega)
  have hcls : ∀ M, RC 64 r M → m_X0_lastConfirmed (64 + 27 + 5 * l) M = some (nI (rCf r l) - 1) ∧ m_X0_nodeAt (64 + 27 + 5 * l) (m_X0_lastFragment (64 + 27 + 5 * l) M) (nI pos) M = some (nI (mbf r l f pos)) ∧ m_X0_startOf (64 + 27 + 5 * l) (m_X0_lastFragment (64 + 27 + 5 * l) M) M = some (nI (vf r l (87 + f))) := fun M hR => by
    have hC := rc_l hR hI hl
    have h7 : m_X0_lastFragment (64 + 27 + 5 * l) M = nI f := by
      unfold m_X0_lastFragment
      rw [hC.2.2.2.2.2.2.2.1, hL.1 6 (by omega) (by omega), ← hf, nI_sub1 (by omega), Nat.add_sub_cancel]
    rw [h7]
    exact ⟨cconf_ok hC hL, nodeAt_ok hC hL (by omega) hpos, startOf_ok hC hL (by omega)⟩
  by_cases hq : vf r l (87 + f) = rCf r l
  · obtain ⟨r', hI', hr, hcl⟩ := bcd_both (f := f) (c := rCf r l) (old := mbf r l f pos) (pos := pos) hI hl hf hq hc hpos hn hnb hold
    refine ⟨r', hI', fun M hM => ?_, fun M hR => ?_⟩
    · obtain ⟨q1, q2, q3⟩ := href M hM
      rw [q1, bind_s, q2, bind_s, q3, bind_s, Int32.sub_add_cancel, if_pos (congrArg nI hq)]
      exact hr M hM
    · obtain ⟨q1, q2, q3⟩ := hcls M hR
      obtain ⟨M', R1, F1, e1⟩ := hcl M hR
      refine ⟨M', R1, F1, ?_⟩
      unfold m_X3_changeEnsemble
      rw [q1, bind_s, q2, bind_s, q3, bind_s, Int32.sub_add_cancel, if_pos (congrArg nI hq)]
      exact e1
  · have hf40 : f < 40 := by
      have hst := rFr_mono (st := fun f => vf r l (87 + f)) (F := vf r l 6) (fun g hg => hL.2.2.2.2.2.2.2.2.1 g hg)
      have key : ∀ g, g < vf r l 6 → g ≤ vf r l (87 + g) := by
        intro g
        induction g with
        | zero => intro _; exact Nat.zero_le _
        | succ g ih =>
          intro hg
          have := ih (by omega)
          have := hL.2.2.2.2.2.2.2.2.1 g hg
          omega
      have := key f (by omega)
      omega
    have hlt : vf r l (87 + f) < rCf r l := by omega
    have I1 := fg_I (c := rCf r l) hI hl hf hf40 hlt hc hlead
    have u6 : vf (rFg r l f (rCf r l)) l 6 = f + 2 := vf_is fg_6 (by omega)
    have us : vf (rFg r l f (rCf r l)) l (87 + (f + 1)) = rCf r l := vf_is fg_s (by omega)
    have u4 : vf (rFg r l f (rCf r l)) l 4 = vf r l 4 := fg_v (by omega) (by omega) (by omega)
    have u0 : vf (rFg r l f (rCf r l)) l 0 = vf r l 0 := fg_v (by omega) (by omega) (by omega)
    have um : ∀ p, p < 5 → mbf (rFg r l f (rCf r l)) l (f + 1) p = mbf r l f p := fun p hp => by
      show cl (rFg r l f (rCf r l) _) = cl (r _)
      rw [fg_m hp hf40]
    obtain ⟨r', hI', hr, hcl⟩ := bcd_both (f := f + 1) (c := rCf r l) (old := mbf r l f pos) (pos := pos) I1 hl (by omega) us (by omega) (by omega) hn (fun q hq => by rw [um q (by omega)]; exact hnb q (by omega)) hold
    refine ⟨r', hI', fun M hM => ?_, fun M hR => ?_⟩
    · obtain ⟨q1, q2, q3⟩ := href M hM
      have hfr := fg_ref (M := M) (r := r) (l := l) (f := f) (c := rCf r l) (pos := pos) (v5 := nI n) (v6 := nI (rCf r l) - 1) (v8 := nI (mbf r l f pos)) (by omega) hf40 5 0 fuel (by omega) (by unfold fuel; omega)
      rw [show rFm r l (f + 1) 0 = gR M 4 from by rw [hM]; exact funext fun i => if_neg (fun q => by omega), sR_id] at hfr
      rw [q1, bind_s, q2, bind_s, q3, bind_s, Int32.sub_add_cancel, if_neg (nI_ne (by omega) (by omega) hq)]
      refine (show _ = _ from hfr).trans ?_
      rw [hr _ gR_self, sR_sR]
    · obtain ⟨q1, q2, q3⟩ := hcls M hR
      obtain ⟨N, e0, R0, F0⟩ := fg_R (c := rCf r l) hR hI hl hf hf40
      obtain ⟨M', R1, F1, e1⟩ := hcl N R0
      refine ⟨M', R1, F0.tr F1, ?_⟩
      unfold m_X3_changeEnsemble
      rw [q1, bind_s, q2, bind_s, q3, bind_s, Int32.sub_add_cancel, if_neg (nI_ne (by omega) (by omega) hq), e0, bind_s]
      exact e1
end RPL
theorem done_12 {G : Nat → Bool} {M : Mem} {x y : Int32} (h : Top G M) : ∃ G' M', s_12 x y G M = some (G', M') ∧ Top G' M' := by
  obtain ⟨nc, lc, G1, M1, hI, hR, e1, hR1, hm1, hr1, hk⟩ := begin2 h
  have h8 := hI.1
  have h4 := hI.2.1
  unfold s_12
  rcases arg_of (x := x) (n := lc) (by omega) with ⟨l, hl, rfl⟩ | hx
  · have hC := rc_l hR hI hl
    have hL := inv_l hI hl
    have hE := hL.2.1
    have h3v := hL.2.2.2.2.1
    have hF := hL.2.2.2.2.2.2.1
    have hmm := hL.2.2.2.2.2.2.2.2.2.2.1
    have g4 : gF M (91 + 5 * l) 4 = nI (vf (gR M 4) l 3) := by rw [show gF M (91 + 5 * l) 4 = _ from hC.2.2.2.2.1, hL.1 3 (by omega) (by omega)]
    have g1 : gF M (91 + 5 * l) 1 = nI (vf (gR M 4) l 0) := by rw [show gF M (91 + 5 * l) 1 = _ from hC.2.1, hL.1 0 (by omega) (by omega)]
    have hof : ∀ (M' : Mem) (w : Nat), gR M' 4 = gR M 4 → w < 333 → w ≠ 5 → m_X6_of 3 (nI l) (nI w) M' = some (nI (vf (gR M 4) l w)) := fun M' w hM hw h5 => by
      rw [of_o (M := M') (by rw [hM]; exact hI) hl hw h5, hM]
    have hbad : m_X6_replace_b29 3 (nI l) y 0 M = some (0, sF 3 3 1 M) := by
      unfold m_X6_replace_b29
      rw [if_pos rfl]
      unfold m_X6_replace_b47
      rw [if_pos rfl]
      unfold m_X6_replace_b68
      rw [if_pos rfl]
      unfold m_X6_replace_b96
      rw [fine1, if_pos rfl]
    rcases arg_of (x := y) (n := vf (gR M 4) l 0) (by omega) with ⟨pos, hpos, rfl⟩ | hy
    · have hS : orB (mbf (gR M 4) l (vf (gR M 4) l 6 - 1)) (vf (gR M 4) l 0) < 256 := orB_lt (fun i hi => Nat.lt_of_lt_of_le (hmm _ i (by omega) hi) h8)
      have hrf : ∀ N, gR N 4 = gR M 4 → m_X6_replace 3 (nI l) (nI pos) N = if vf (gR M 4) l 3 = 0 then (if on1 (rCh (gR M 4) (orB (mbf (gR M 4) l (vf (gR M 4) l 6 - 1)) (vf (gR M 4) l 0)) nc) = -1 then m_X6_replace_b96 3 (nI l) (nI pos) (nI (vf (gR M 4) l 6 - 1)) (on1 (rCh (gR M 4) (orB (mbf (gR M 4) l (vf (gR M 4) l 6 - 1)) (vf (gR M 4) l 0)) nc)) 3 1 0 N else m_X6_replace_b96 3 (nI l) (nI pos) (nI (vf (gR M 4) l 6 - 1)) (on1 (rCh (gR M 4) (orB (mbf (gR M 4) l (vf (gR M 4) l 6 - 1)) (vf (gR M 4) l 0)) nc)) 3 1 1 N) else m_X6_replace_b96 3 (nI l) (nI pos) (nI (vf (gR M 4) l 6 - 1)) (on1 (rCh (gR M 4) (orB (mbf (gR M 4) l (vf (gR M 4) l 6 - 1)) (vf (gR M 4) l 0)) nc)) 3 1 0 N := fun N hN => by
        have hIN : Inv (gR N 4) nc lc := by rw [hN]; exact hI
        have hen := ens_ok (M := N) (l := l) (f := vf (gR M 4) l 6 - 1) (by omega) (by omega) (inv_l hIN hl).1 (inv_l hIN hl).2.1.2 (fun p hp => by rw [hN] at hp ⊢; exact Nat.lt_of_lt_of_le (hmm _ p (by omega) hp) h8)
        have hcho := choose_ok (M := N) hS hIN.2.2.1 h8
        rw [hN] at hen hcho
        unfold m_X6_replace
        rw [isLed_ok hIN hl, bind_s, if_neg (show ¬ (1 : Int32) = 0 by decide), show m_X6_of 3 (nI l) 0 N = _ from hof N 0 hN (by omega) (by omega), bind_s, in_ok hpos (by omega), if_neg (show ¬ (1 : Int32) = 0 by decide)]
        unfold m_X6_replace_b29
        rw [if_neg (show ¬ (1 : Int32) = 0 by decide), show m_X6_of 3 (nI l) 6 N = _ from hof N 6 hN (by omega) (by omega), bind_s, nI_sub1 (by omega)]
        unfold m_X6_replace_b47
        rw [if_neg (show ¬ (1 : Int32) = 0 by decide), hen, bind_s, hcho, bind_s]
        unfold m_X6_replace_b68
        rw [if_neg (show ¬ (1 : Int32) = 0 by decide), show m_X6_of 3 (nI l) 3 N = _ from hof N 3 hN (by omega) (by omega), bind_s]
        by_cases h0 : vf (gR M 4) l 3 = 0
        · rw [if_pos h0, h0, if_pos (show nI 0 = 0 from rfl)]
        · rw [if_neg h0, if_neg (nI_ne0 (by omega) (by omega))]
      have hcf : m_X5_replace 0 (nI l) (nI pos) G M = if vf (gR M 4) l 3 = 0 then (if on1 (rCh (gR M 4) (orB (mbf (gR M 4) l (vf (gR M 4) l 6 - 1)) (vf (gR M 4) l 0)) nc) = -1 then some (.inr 2) else Option.bind (m_X3_changeEnsemble 64 (91 + 5 * l) (nI pos) (on1 (rCh (gR M 4) (orB (mbf (gR M 4) l (vf (gR M 4) l 6 - 1)) (vf (gR M 4) l 0)) nc)) M1) fun z23 => some (.inl (on1 (rCh (gR M 4) (orB (mbf (gR M 4) l (vf (gR M 4) l 6 - 1)) (vf (gR M 4) l 0)) nc), G1, z23))) else some (.inr 2) := by
        have h7 : m_X0_lastFragment (91 + 5 * l) M = nI (vf (gR M 4) l 6 - 1) := by
          unfold m_X0_lastFragment
          rw [show gF M (91 + 5 * l) 7 = _ from hC.2.2.2.2.2.2.2.1, hL.1 6 (by omega) (by omega), nI_sub1 (by omega)]
        unfold m_X5_replace
        rw [exL_ok hR hI hl, bind_s]
        show (if nI pos < 0 then _ else if nI pos < gF M (91 + 5 * l) 1 then (if gF M (91 + 5 * l) 4 = 0 then Option.bind (m_X0_ensembleMask (91 + 5 * l) (m_X0_lastFragment (91 + 5 * l) M) M) _ else _) else _) = _
        rw [if_neg (nI_pos (by omega)), g1, if_pos (nI_lt hpos (by omega)), g4, h7, show m_X0_ensembleMask (91 + 5 * l) (nI (vf (gR M 4) l 6 - 1)) M = _ from ensM_ok hC hL h8 (by omega), bind_s, cchoose_ok hR hI hS, bind_s, e1, bind_s]
        by_cases h0 : vf (gR M 4) l 3 = 0
        · rw [if_pos h0, h0, if_pos (show nI 0 = 0 from rfl)]
        · rw [if_neg h0, if_neg (nI_ne0 (by omega) (by omega))]
      cases hch : rCh (gR M 4) (orB (mbf (gR M 4) l (vf (gR M 4) l 6 - 1)) (vf (gR M 4) l 0)) nc with
      | none =>
        rw [hch] at hrf hcf
        refine ⟨G, sF 3 3 2 M, case_t (z := m_X6_replace 3 (nI l) (nI pos)) (M := M) (v := 0) (k := 2) ?_ ?_ gF_self (by decide), h.qu (Qu.rf.s3)⟩
        · unfold m_L_replace
          rw [hcf, if_pos (show on1 none = -1 from rfl), ite_self]
          rfl
        · rw [hrf M rfl, if_pos (show on1 none = -1 from rfl), ite_self]
          unfold m_X6_replace_b96
          rw [fine2, if_pos rfl]
      | some n =>
        have hn := (ch_new hch).1
        rw [hch] at hrf hcf
        rw [show on1 (some n) = nI n from rfl, if_neg (nI_m1 (by omega))] at hcf
        by_cases h0 : vf (gR M 4) l 3 = 0
        · rw [if_pos h0] at hcf
          obtain ⟨r', hI', hr, hc⟩ := rp_both (pos := pos) hI hl h0 hpos hch
          obtain ⟨Mc, hRc, hFc, ec⟩ := hc M1 hR1
          obtain ⟨h4', M3, e3, b4, b3, b5, hT⟩ := hk Mc (sF 3 3 0 (oL (nI n).toInt64 Mc)) r' nc lc hFc (Qu.rf.oL.s3) hRc hI'
          have hrc : gR (oL (nI n).toInt64 Mc) 4 = gR M 4 := h4'
          refine ⟨G1, sR 4 r' M3, case_i (z := m_X6_replace 3 (nI l) (nI pos)) (M := oL (nI n).toInt64 Mc) (v := nI n) ?_ ?_ (b3.trans gF_self) ?_, hT⟩
          · unfold m_L_replace
            rw [hcf, show m_X3_changeEnsemble 64 (91 + 5 * l) (nI pos) (nI n) M1 = some Mc from ec]
            rfl
          · rw [hrf _ hrc, if_pos h0, show on1 (some n) = nI n from rfl, if_neg (nI_m1 (by omega))]
            unfold m_X6_replace_b96
            rw [fine0, if_neg ne10, e3, bind_s]
            exact hr M3 b4
          · show go (sR 4 _ M3) 0 = _
            rw [show go (sR 4 r' M3) = go M3 from rfl, go_of b5]
            exact go_oL
        · rw [if_neg h0] at hcf
          refine ⟨G, sF 3 3 2 M, case_t (z := m_X6_replace 3 (nI l) (nI pos)) (M := M) (v := 0) (k := 2) ?_ ?_ gF_self (by decide), h.qu (Qu.rf.s3)⟩
          · unfold m_L_replace
            rw [hcf]
            rfl
          · rw [hrf M rfl, if_neg h0]
            unfold m_X6_replace_b96
            rw [fine2, if_pos rfl]
    · refine ⟨G, sF 3 3 1 M, case_t (z := m_X6_replace 3 (nI l) y) (M := M) (v := 0) (k := 1) ?_ ?_ gF_self (by decide), h.qu (Qu.rf.s3)⟩
      · unfold m_L_replace m_X5_replace
        rw [exL_ok hR hI hl, bind_s]
        show Option.bind (if y < 0 then _ else if y < gF M (91 + 5 * l) 1 then _ else _) _ = _
        rw [g1]
        by_cases h0 : y < 0
        · rw [if_pos h0]
          rfl
        · rw [if_neg h0, if_neg (Int32.not_lt.mpr (hy.resolve_left h0))]
          rfl
      · unfold m_X6_replace
        rw [isLed_ok hI hl, bind_s, if_neg (show ¬ (1 : Int32) = 0 by decide), show m_X6_of 3 (nI l) 0 M = _ from hof M 0 rfl (by omega) (by omega), bind_s, in_no (by omega) hy, if_pos rfl]
        exact hbad
  · refine ⟨G, sF 3 3 1 M, case_t (z := m_X6_replace 3 x y) (M := M) (v := 0) (k := 1) ?_ ?_ gF_self (by decide), h.qu (Qu.rf.s3)⟩
    · unfold m_L_replace m_X5_replace
      rw [exL_no hR hI hx, bind_s]
      rfl
    · unfold m_X6_replace
      rw [isLed_no hI hx, bind_s, if_pos rfl]
      unfold m_X6_replace_b29
      rw [if_pos rfl]
      unfold m_X6_replace_b47
      rw [if_pos rfl]
      unfold m_X6_replace_b68
      rw [if_pos rfl]
      unfold m_X6_replace_b96
      rw [fine1, if_pos rfl]
