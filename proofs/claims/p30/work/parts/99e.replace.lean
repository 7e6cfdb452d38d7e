/-! replace -/
section RPL
variable {nc lc l n : Nat} {r : Nat → Int32}
theorem rp_both {pos : Nat} (hI : Inv r nc lc) (hl : l < lc) (h0 : vf r l 3 = 0) (hpos : pos < vf r l 0) (hch : rCh r (orB (mbf r l (vf r l 6 - 1)) (vf r l 0)) nc = some n) : ∃ r', Inv r' nc lc ∧
    (∀ M, gR M 4 = r → Option.bind (m_X6_confirmed 3 (nI l) M) (fun z10 => Option.bind (m_X6_memberOf 3 (nI l) (nI (vf r l 6 - 1)) (nI pos) M) fun z12 => Option.bind (m_X6_of 3 (nI l) (87 + nI (vf r l 6 - 1)) M) fun z14 => if z14 = z10 + 1 then m_X6_replace_b214 3 (nI l) (nI pos) (nI (vf r l 6 - 1)) (nI n) z10 (z10 + 1) z12 M else m_X6_replace_L149 3 (nI l) (nI pos) fuel (nI (vf r l 6 - 1)) (nI n) z10 (z10 + 1) z12 0 M) = some (nI n, sR 4 r' M)) ∧
    (∀ M, RC 64 r M → ∃ M', RC 64 r' M' ∧ Fg 64 M M' ∧ m_X3_changeEnsemble 64 (64 + 27 + 5 * l) (nI pos) (nI n) M = some M') ∧ Go lc 0 r r' := by
  have h8 := hI.1
  have h4 := hI.2.1
  have hL := inv_l hI hl
  have hE := hL.2.1
  have hW := hL.2.2.1
  have hA := hL.2.2.2.1
  have h40 := hL.2.2.2.2.2.1
  have hF := hL.2.2.2.2.2.2.1
  have hk := hL.2.2.2.2.2.2.2.2.2.2.2.2.1
  have hb4 := hL.2.2.2.2.2.2.2.2.2.2.2.2.2.2.1 h0
  have hse := hL.2.2.2.2.2.2.2.2.2.1
  have hmm := hL.2.2.2.2.2.2.2.2.2.2.1
  obtain ⟨f, hf⟩ : ∃ f, f + 1 = vf r l 6 := ⟨vf r l 6 - 1, by omega⟩
  rw [show vf r l 6 - 1 = f by omega] at hch hb4 hse ⊢
  have hc := rCf_le (r := r) (l := l)
  have hold : mbf r l f pos < 8 := Nat.lt_of_lt_of_le (hmm f pos (by omega) hpos) h8
  obtain ⟨hn, hnb⟩ := ch_new hch
  have hlead : ∀ e, e < rCf r l → vf r l 2 ≤ pc (vf r l (47 + e)) := fun e he => of_decide_eq_true (lead_q (q := fun e => decide (vf r l 2 ≤ pc (vf r l (47 + e)))) (vf r l 4) 0 e (Nat.zero_le _) he)
  have hsc : vf r l (87 + f) ≤ rCf r l := by
    rcases lead_ge (q := fun e => decide (vf r l 2 ≤ pc (vf r l (47 + e)))) (vf r l 4) 0 (vf r l (87 + f)) (by omega) (fun k _ hk2 => decide_eq_true (hb4 k hk2)) with h | h
    · exact h
    · omega
  have href : ∀ M, gR M 4 = r → m_X6_confirmed 3 (nI l) M = some (nI (rCf r l) - 1) ∧ m_X6_memberOf 3 (nI l) (nI f) (nI pos) M = some (nI (mbf r l f pos)) ∧ m_X6_of 3 (nI l) (87 + nI f) M = some (nI (vf r l (87 + f))) := fun M hM => by
    subst hM
    refine ⟨conf_ok (by omega) hL.1 h40 (by omega) hk, by rw [memberOf_ok (by omega), hL.1 (128 + 5 * f + pos) (by omega) (by omega)], ?_⟩
    rw [show (87 : Int32) = nI 87 from rfl, nI_add]
    exact of_o (w := 87 + f) hI hl (by omega) (by omega)
  have hcls : ∀ M, RC 64 r M → m_X0_lastConfirmed (64 + 27 + 5 * l) M = some (nI (rCf r l) - 1) ∧ m_X0_nodeAt (64 + 27 + 5 * l) (m_X0_lastFragment (64 + 27 + 5 * l) M) (nI pos) M = some (nI (mbf r l f pos)) ∧ m_X0_startOf (64 + 27 + 5 * l) (m_X0_lastFragment (64 + 27 + 5 * l) M) M = some (nI (vf r l (87 + f))) := fun M hR => by
    have hC := rc_l hR hI hl
    have h7 : m_X0_lastFragment (64 + 27 + 5 * l) M = nI f := by
      unfold m_X0_lastFragment
      rw [hC.2.2.2.2.2.2.2.1, hL.1 6 (by omega) (by omega), ← hf, nI_sub1 (by omega), Nat.add_sub_cancel]
    rw [h7]
    exact ⟨cconf_ok hC hL, nodeAt_ok hC hL (by omega) hpos, startOf_ok hC hL (by omega)⟩
  by_cases hq : vf r l (87 + f) = rCf r l
  · obtain ⟨r', hI', hr, hcl, hg⟩ := bcd_both (f := f) (c := rCf r l) (old := mbf r l f pos) (pos := pos) hI hl hf hq hc hpos hn hnb hold h0 rfl rfl
    refine ⟨r', hI', fun M hM => ?_, fun M hR => ?_, hg⟩
    · obtain ⟨q1, q2, q3⟩ := href M hM
      rw [q1, bind_s, q2, bind_s, q3, bind_s, Int32.sub_add_cancel, if_pos (congrArg nI hq)]
      exact hr M hM
    · obtain ⟨q1, q2, q3⟩ := hcls M hR
      obtain ⟨M', R1, F1, e1⟩ := hcl M hR
      refine ⟨M', R1, F1, ?_⟩
      unfold m_X3_changeEnsemble
      rw [q1, bind_s, q2, bind_s, q3, bind_s, Int32.sub_add_cancel, if_pos (congrArg nI hq)]
      exact e1
  · have hf40 : f < 40 := by
      have hst := rFr_mono (st := fun f => vf r l (87 + f)) (F := vf r l 6) (fun g hg => hL.2.2.2.2.2.2.2.2.1 g hg)
      have key : ∀ g, g < vf r l 6 → g ≤ vf r l (87 + g) := by
        intro g
        induction g with
        | zero => intro _; exact Nat.zero_le _
        | succ g ih =>
          intro hg
          have := ih (by omega)
          have := hL.2.2.2.2.2.2.2.2.1 g hg
          omega
      have := key f (by omega)
      omega
    have hlt : vf r l (87 + f) < rCf r l := by omega
    have I1 := fg_I (c := rCf r l) hI hl hf hf40 hlt hc hlead
    have u6 : vf (rFg r l f (rCf r l)) l 6 = f + 2 := vf_is fg_6 (by omega)
    have us : vf (rFg r l f (rCf r l)) l (87 + (f + 1)) = rCf r l := vf_is fg_s (by omega)
    have u4 : vf (rFg r l f (rCf r l)) l 4 = vf r l 4 := fg_v (by omega) (by omega) (by omega)
    have u0 : vf (rFg r l f (rCf r l)) l 0 = vf r l 0 := fg_v (by omega) (by omega) (by omega)
    have um : ∀ p, p < 5 → mbf (rFg r l f (rCf r l)) l (f + 1) p = mbf r l f p := fun p hp => by
      show cl (rFg r l f (rCf r l) _) = cl (r _)
      rw [fg_m hp hf40]
    have k47 : ∀ e, e < 40 → vf (rFg r l f (rCf r l)) l (47 + e) = vf r l (47 + e) := fun e he => fg_v (by omega) (by omega) (by omega)
    obtain ⟨r', hI', hr, hcl, hg⟩ := bcd_both (f := f + 1) (c := rCf r l) (old := mbf r l f pos) (pos := pos) I1 hl (by omega) us (by omega) (by omega) hn (fun q hq => by rw [um q (by omega)]; exact hnb q (by omega)) hold ((fg_v (by omega) (by omega) (by omega)).trans h0) (rCf_of (fg_v (by omega) (by omega) (by omega)) u4 (fun k hk => k47 k (by omega))) (um pos (by omega))
    have hg0 : Go lc 0 r (rFg r l f (rCf r l)) := ⟨fun hY => Y.fg hI hl h0 hf hf40 hlt hc hlead hY, fun k hk => ⟨k, (fg_l hf40 (by unfold lIx; omega)).trans hk, by omega⟩, Ke.of h4 (fun m hm => fg_l hf40 (by unfold lIx; omega)) (fun k hk => by
      by_cases hkl : k = l
      · rw [hkl]; exact fg_o (by omega) (by omega) (by omega)
      · exact fg_l hf40 (by unfold lIx; omega))⟩
    refine ⟨r', hI', fun M hM => ?_, fun M hR => ?_, hg0.tr hg⟩
    · obtain ⟨q1, q2, q3⟩ := href M hM
      have hfr := fg_ref (M := M) (r := r) (l := l) (f := f) (c := rCf r l) (pos := pos) (v5 := nI n) (v6 := nI (rCf r l) - 1) (v8 := nI (mbf r l f pos)) (by omega) hf40 5 0 fuel (by omega) (by unfold fuel; omega)
      rw [show rFm r l (f + 1) 0 = gR M 4 from by rw [hM]; exact funext fun i => if_neg (fun q => by omega), sR_id] at hfr
      rw [q1, bind_s, q2, bind_s, q3, bind_s, Int32.sub_add_cancel, if_neg (nI_ne (by omega) (by omega) hq)]
      refine (show _ = _ from hfr).trans ?_
      rw [hr _ gR_self, sR_sR]
    · obtain ⟨q1, q2, q3⟩ := hcls M hR
      obtain ⟨N, e0, R0, F0⟩ := fg_R (c := rCf r l) hR hI hl hf hf40
      obtain ⟨M', R1, F1, e1⟩ := hcl N R0
      refine ⟨M', R1, F0.tr F1, ?_⟩
      unfold m_X3_changeEnsemble
      rw [q1, bind_s, q2, bind_s, q3, bind_s, Int32.sub_add_cancel, if_neg (nI_ne (by omega) (by omega) hq), e0, bind_s]
      exact e1
end RPL
