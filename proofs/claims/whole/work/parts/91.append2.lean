/-! append -/
/-- the row with one entry more -/
def rApp (r : Nat → Int32) (l e p : Nat) : Nat → Int32 := upd (upd (upd r (2131 + 333 * l + (7 + e)) (nI p)) (2131 + 333 * l + (47 + e)) 0) (2131 + 333 * l + 4) (nI (e + 1))
section APP
variable {M : Mem} {B a nc lc l e p : Nat} {r : Nat → Int32}
theorem rApp_o {i : Nat} (h1 : i ≠ 2131 + 333 * l + (7 + e)) (h2 : i ≠ 2131 + 333 * l + (47 + e)) (h3 : i ≠ 2131 + 333 * l + 4) : rApp r l e p i = r i := by
  unfold rApp
  rw [upd_n h3, upd_n h2, upd_n h1]
theorem rApp_4 : rApp r l e p (2131 + 333 * l + 4) = nI (e + 1) := upd_s
theorem rApp_p : rApp r l e p (2131 + 333 * l + (7 + e)) = nI p := by
  unfold rApp
  rw [upd_n (by omega), upd_n (by omega), upd_s]
theorem rApp_a : rApp r l e p (2131 + 333 * l + (47 + e)) = nI 0 := by
  unfold rApp
  rw [upd_n (by omega), upd_s]
  rfl
theorem rApp_v {w : Nat} (h1 : w ≠ 7 + e) (h2 : w ≠ 47 + e) (h3 : w ≠ 4) : vf (rApp r l e p) l w = vf r l w := vf_o (rApp_o (by omega) (by omega) (by omega))
theorem LI.app (hI : LI r nc l) (he : vf r l 4 = e) (h40 : e < 40) (hp : p ≤ 999) : LI (rApp r l e p) nc l := by
  have hv : ∀ w, w ≠ 7 + e → w ≠ 47 + e → w ≠ 4 → vf (rApp r l e p) l w = vf r l w := fun w h1 h2 h3 => rApp_v h1 h2 h3
  have h0 := hv 0 (by omega) (by omega) (by omega)
  have h1 := hv 1 (by omega) (by omega) (by omega)
  have h2 := hv 2 (by omega) (by omega) (by omega)
  have h3 := hv 3 (by omega) (by omega) (by omega)
  have h6 := hv 6 (by omega) (by omega) (by omega)
  have h87 := hv 87 (by omega) (by omega) (by omega)
  have h4 : vf (rApp r l e p) l 4 = e + 1 := by
    show cl (rApp r l e p _) = _
    rw [rApp_4, cl_nI (by omega)]
  have ha : vf (rApp r l e p) l (47 + e) = 0 := by
    show cl (rApp r l e p _) = _
    rw [rApp_a, cl_nI (by omega)]
  have hpp : vf (rApp r l e p) l (7 + e) = p := by
    show cl (rApp r l e p _) = _
    rw [rApp_p, cl_nI (by omega)]
  obtain ⟨a0, a1, a2, a3, a4, a5, a6, a7, a8, a9, b0, b1, b2, b3, b4, k, hk, b5⟩ := hI
  have va : ∀ f, vf (rApp r l e p) l (87 + f) = vf r l (87 + f) := fun f => hv (87 + f) (by omega) (by omega) (by omega)
  have vm : ∀ f q, mbf (rApp r l e p) l f q = mbf r l f q := fun f q => hv (128 + 5 * f + q) (by omega) (by omega) (by omega)
  unfold LI
  rw [h0, h1, h2, h3, h4, h6, h87, va]
  refine ⟨fun w hw hw5 => ?_, a1, a2, a3, a4, by omega, a6, a7, fun f hf => ?_, by omega, fun f p hf hp => ?_, fun f p q hf hp hq => ?_, fun k hk => ?_, fun k hk => ?_, fun h0 k hk => ?_, k, hk, ?_⟩
  · by_cases q1 : w = 7 + e
    · rw [q1, rApp_p, hpp]
    · by_cases q2 : w = 47 + e
      · rw [q2, rApp_a, ha]
      · by_cases q3 : w = 4
        · rw [q3, rApp_4, h4]
        · rw [hv w q1 q2 q3, rApp_o (by omega) (by omega) (by omega)]
          exact a0 w hw hw5
  · rw [va f, va (f + 1)]; exact a8 f hf
  · rw [vm f p]; exact b0 f p hf hp
  · rw [vm f p, vm f q]; exact b1 f p q hf hp hq
  · by_cases hq : k = e
    · rw [hq, ha]; omega
    · rw [hv (47 + k) (by omega) (by omega) (by omega)]; exact b2 k (by omega)
  · by_cases hq : k = e
    · rw [hq, hpp]; omega
    · rw [hv (7 + k) (by omega) (by omega) (by omega)]; exact b3 k (by omega)
  · rw [hv (47 + k) (by omega) (by omega) (by omega)]; exact b4 h0 k hk
  · rw [rApp_o (by omega) (by omega) (by omega)]; exact b5
theorem CL.app (hC : CL M a r l) (hI : LI r nc l) (he : vf r l 4 = e) (h40 : e < 40) : CL (sF a 5 (nI (e + 1)) (sR (a + 2) (upd (gR M (a + 2)) e 0) (sR (a + 1) (upd (gR M (a + 1)) e (nI p)) M))) a (rApp r l e p) l := by
  have h41 := hI.2.2.2.2.2.2.1.2
  have hE := hI.2.1
  have hv : ∀ w, w ≠ 7 + e → w ≠ 47 + e → w ≠ 4 → vf (rApp r l e p) l w = vf r l w := fun w h1 h2 h3 => rApp_v h1 h2 h3
  have h4' : vf (rApp r l e p) l 4 = e + 1 := by
    show cl (rApp r l e p _) = _
    rw [rApp_4, cl_nI (by omega)]
  obtain ⟨h0, h1, h2, h3, h4, h5, h6, h7, h8, h9, h10, h11⟩ := hC
  have hs : ∀ k, k ≠ 5 → gF (sF a 5 (nI (e + 1)) (sR (a + 2) (upd (gR M (a + 2)) e 0) (sR (a + 1) (upd (gR M (a + 1)) e (nI p)) M))) a k = gF M a k := fun k hk => gF_ne hk
  refine ⟨by rw [hs 0 (by omega), h0], by rw [hs 1 (by omega), h1, rApp_o (by omega) (by omega) (by omega)], by rw [hs 2 (by omega), h2, rApp_o (by omega) (by omega) (by omega)], by rw [hs 3 (by omega), h3, rApp_o (by omega) (by omega) (by omega)], by rw [hs 4 (by omega), h4, rApp_o (by omega) (by omega) (by omega)], by rw [gF_self, rApp_4], by rw [hs 6 (by omega), h6, rApp_o (by omega) (by omega) (by omega)], by rw [hs 7 (by omega), h7, rApp_o (by omega) (by omega) (by omega)], fun k hk hk40 => ?_, fun k hk hk40 => ?_, fun f hf hf41 => ?_, fun f q hf hq hf41 hq5 => ?_⟩
  · rw [gR_sF, gR_ne (by omega), gR_self]
    by_cases hq : k = e
    · rw [hq, upd_s, rApp_p]
    · rw [upd_n hq, rApp_o (by omega) (by omega) (by omega)]
      exact h8 k (by omega) hk40
  · rw [gR_sF, gR_self]
    by_cases hq : k = e
    · rw [hq, upd_s, rApp_a]
      rfl
    · rw [upd_n hq, rApp_o (by omega) (by omega) (by omega)]
      exact h9 k (by omega) hk40
  · rw [hv 6 (by omega) (by omega) (by omega)] at hf
    rw [gR_sF, gR_ne (by omega), gR_ne (by omega), h10 f hf hf41, rApp_o (by omega) (by omega) (by omega)]
  · rw [hv 6 (by omega) (by omega) (by omega)] at hf
    rw [hv 0 (by omega) (by omega) (by omega)] at hq
    rw [gR_sF, gR_ne (by omega), gR_ne (by omega), h11 f q hf hq hf41 hq5, rApp_o (by omega) (by omega) (by omega)]
theorem app_I (hI : Inv r nc lc) (hl : l < lc) (he : vf r l 4 = e) (h40 : e < 40) (hp : p ≤ 999) : Inv (rApp r l e p) nc lc := by
  refine hI.led hl (fun i hi => rApp_o (by unfold lIx at hi; omega) (by unfold lIx at hi; omega) (by unfold lIx at hi; omega)) ?_ ((inv_l hI hl).app he h40 hp)
  show _ ≤ cl (rApp r l e p _)
  rw [rApp_4, cl_nI (by omega)]
  omega
theorem rCf_le {r : Nat → Int32} {l : Nat} : rCf r l ≤ vf r l 4 := by
  have := (lead_le (q := fun e => decide (vf r l 2 ≤ pc (vf r l (47 + e)))) (vf r l 4) 0).2
  unfold rCf
  omega
theorem addE_ok (hC : CL M a r l) (hI : LI r nc l) (he : vf r l 4 = e) (h40 : e < 40) : m_X0_addEntry a (nI p) M = some (nI e, sF a 5 (nI (e + 1)) (sR (a + 2) (upd (gR M (a + 2)) e 0) (sR (a + 1) (upd (gR M (a + 1)) e (nI p)) M))) := by
  have h5 : gF M a 5 = nI e := by rw [hC.2.2.2.2.2.1, hI.1 4 (by omega) (by omega), he]
  have hm : aI (a + 2) (nI e) 0 (aI (a + 1) (nI e) (nI p) M) = sR (a + 2) (upd (gR M (a + 2)) e 0) (sR (a + 1) (upd (gR M (a + 1)) e (nI p)) M) := by
    rw [aI_nI (q := a + 1) (by omega), aI_nI (q := a + 2) (by omega), gR_ne (by omega)]
  unfold m_X0_addEntry
  rw [h5, if_neg (nI_pos (by omega)), show (40 : Int32) = nI 40 from rfl, if_neg (nI_ge (by omega) (by omega)), if_neg (nI_ge (by omega) (by omega)), ck_ix (by omega) (by omega), ck_ix (by omega) (by omega), hm, gF_sR, gF_sR, h5, nI_1]
/-- both: the class's write, and the reference's way from its second cell on -/
theorem write_both (hI : Inv r nc lc) (hl : l < lc) (he : vf r l 4 = e) (h40 : e < 40) (hp : p ≤ 999) : ∃ r', Inv r' nc lc ∧
    (∀ M x, gR M 4 = rApp r l e p → m_X6_append_L118 3 (nI l) x fuel (nI e) (nI (rCf r l) - 1) (nI 0) M = some (nI e, sR 4 r' M)) ∧
    ∀ M, RC 64 r M → ∃ M', RC 64 r' M' ∧ Fg 64 M M' ∧ m_X3_write 64 (64 + 27 + 5 * l) (nI p) M = some (nI e, M') := by
  have h8 := hI.1
  have h4 := hI.2.1
  have hL := inv_l hI hl
  have hW := hL.2.2.1
  have hE := hL.2.1
  have hc := rCf_le (r := r) (l := l)
  have I1 := app_I hI hl he h40 hp
  have h4' : vf (rApp r l e p) l 4 = e + 1 := by
    show cl (rApp r l e p _) = _
    rw [rApp_4, cl_nI (by omega)]
  have hpp : vf (rApp r l e p) l (7 + e) = p := by
    show cl (rApp r l e p _) = _
    rw [rApp_p, cl_nI (by omega)]
  have hv1 : vf (rApp r l e p) l 1 = vf r l 1 := rApp_v (by omega) (by omega) (by omega)
  obtain ⟨r', hI', -, hr, hcl⟩ := sends_both (B := 64) (l := l) (e := e) (c := rCf r l) (p := p) (f := frg (rApp r l e p) l e) (by omega) (by omega) (vf (rApp r l e p) l 1) 0 (rApp r l e p) I1 hl (by omega) (by omega) rfl hpp
  refine ⟨r', hI', fun M x hM => hr M fuel x hM (by unfold fuel; omega), fun M hR => ?_⟩
  have hC := rc_l hR hI hl
  have hC1 := hC.app (p := p) hL he h40
  have R1 : RC 64 (rApp r l e p) (sF (64 + 27 + 5 * l) 5 (nI (e + 1)) (sR (64 + 27 + 5 * l + 2) (upd (gR M (64 + 27 + 5 * l + 2)) e 0) (sR (64 + 27 + 5 * l + 1) (upd (gR M (64 + 27 + 5 * l + 1)) e (nI p)) M))) := RC.led hR hI hl (((Fc.rf.sR (by omega)).sR (by omega)).sF (by omega)) (fun i hi => rApp_o (by unfold lIx at hi; omega) (by unfold lIx at hi; omega) (by unfold lIx at hi; omega)) hC1
  have F1 : Fg 64 M (sF (64 + 27 + 5 * l) 5 (nI (e + 1)) (sR (64 + 27 + 5 * l + 2) (upd (gR M (64 + 27 + 5 * l + 2)) e 0) (sR (64 + 27 + 5 * l + 1) (upd (gR M (64 + 27 + 5 * l + 1)) e (nI p)) M))) := ((Fg.rf.sR (by omega)).sR (by omega)).sF (by omega) (Or.inl (by decide))
  obtain ⟨M', R2, F2, e2⟩ := hcl _ fuel (nI p) R1 (by unfold fuel; omega)
  refine ⟨M', R2, F1.tr F2, ?_⟩
  unfold m_X3_write
  rw [cconf_ok hC hL, bind_s, addE_ok hC hL he h40, bind_s]
  show Option.bind (m_X0_fragmentOf (64 + 27 + 5 * l) (nI e) (sF (64 + 27 + 5 * l) 5 (nI (e + 1)) (sR (64 + 27 + 5 * l + 2) (upd (gR M (64 + 27 + 5 * l + 2)) e 0) (sR (64 + 27 + 5 * l + 1) (upd (gR M (64 + 27 + 5 * l + 1)) e (nI p)) M)))) (fun z5 => m_X3_write_L36 64 (64 + 27 + 5 * l) (nI p) fuel (nI e) (m_X2_of (gF (sF (64 + 27 + 5 * l) 5 (nI (e + 1)) (sR (64 + 27 + 5 * l + 2) (upd (gR M (64 + 27 + 5 * l + 2)) e 0) (sR (64 + 27 + 5 * l + 1) (upd (gR M (64 + 27 + 5 * l + 1)) e (nI p)) M))) (64 + 27 + 5 * l) 0) (nI e) (nI p) (nI (rCf r l) - 1)) z5 0 _) = _
  rw [cfrag_ok hC1 (inv_l I1 hl) (by omega), bind_s, hC1.1, of_pz (by omega) (by omega) (by omega) (by omega)]
  exact e2
end APP
theorem le_999 {p : Nat} (h : p < 1000) : nI p ≤ 999 := nI_le (b := 999) (by omega) (by omega)
theorem gt_999 {y : Int32} (h : nI 1000 ≤ y) : ¬ y ≤ 999 := fun q => absurd (Int32.le_trans h q) (by decide)
/-- append -/
theorem done_11 {G : Nat → Bool} {M : Mem} {x y : Int32} (h : Top G M) : ∃ G' M', s_11 x y G M = some (G', M') ∧ Top G' M' := by
  obtain ⟨nc, lc, G1, M1, hI, hR, e1, hR1, hm1, hr1, hk⟩ := begin2 h
  have h4 := hI.2.1
  unfold s_11
  rcases arg_of (x := x) (n := lc) (by omega) with ⟨l, hl, rfl⟩ | hx
  · have hC := rc_l hR hI hl
    have hL := inv_l hI hl
    have h3v := hL.2.2.2.2.1
    have h40 := hL.2.2.2.2.2.1
    have g4 : gF M (91 + 5 * l) 4 = nI (vf (gR M 4) l 3) := by rw [show gF M (91 + 5 * l) 4 = _ from hC.2.2.2.2.1, hL.1 3 (by omega) (by omega)]
    have g5 : gF M (91 + 5 * l) 5 = nI (vf (gR M 4) l 4) := by rw [show gF M (91 + 5 * l) 5 = _ from hC.2.2.2.2.2.1, hL.1 4 (by omega) (by omega)]
    have hof : ∀ (M' : Mem) (w : Nat), gR M' 4 = gR M 4 → w < 333 → w ≠ 5 → m_X6_of 3 (nI l) (nI w) M' = some (nI (vf (gR M 4) l w)) := fun M' w hM hw h5 => by
      rw [of_o (M := M') (by rw [hM]; exact hI) hl hw h5, hM]
    rcases arg_of (x := y) (n := 1000) (by omega) with ⟨p, hp, rfl⟩ | hy
    · by_cases hq : vf (gR M 4) l 3 = 0 ∧ vf (gR M 4) l 4 < 40
      · obtain ⟨r', hI', hr, hc⟩ := write_both (e := vf (gR M 4) l 4) (p := p) hI hl rfl hq.2 (by omega)
        obtain ⟨Mc, hRc, hFc, ec⟩ := hc M1 hR1
        obtain ⟨h4', M3, e3, b4, b3, b5, hT⟩ := hk Mc (sF 3 3 0 (oL (nI (vf (gR M 4) l 4)).toInt64 Mc)) r' nc lc hFc (Qu.rf.oL.s3) hRc hI'
        have hrc : gR (oL (nI (vf (gR M 4) l 4)).toInt64 Mc) 4 = gR M 4 := h4'
        refine ⟨G1, sR 4 r' M3, case_i (z := m_X6_append 3 (nI l) (nI p)) (M := oL (nI (vf (gR M 4) l 4)).toInt64 Mc) (v := nI (vf (gR M 4) l 4)) ?_ ?_ (b3.trans gF_self) ?_, hT⟩
        · unfold m_L_append m_X5_append
          rw [exL_ok hR hI hl, bind_s]
          show Option.bind (if nI p < 0 then _ else if nI p ≤ 999 then (if gF M (91 + 5 * l) 4 = 0 then (if gF M (91 + 5 * l) 5 < 40 then Option.bind (m_X4_push 1 64 G M) _ else _) else _) else _) _ = _
          rw [if_neg (nI_pos (by omega)), if_pos (le_999 hp), g4, hq.1, if_pos (show nI 0 = 0 from rfl), g5, if_pos (show nI (vf (gR M 4) l 4) < 40 from nI_lt (b := 40) hq.2 (by omega)), e1, bind_s]
          show Option.bind (Option.bind (m_X3_write 64 (64 + 27 + 5 * l) (nI p) M1) _) _ = _
          rw [ec]
          rfl
        · have hM3 : ∀ w, w < 333 → w ≠ 5 → m_X6_of 3 (nI l) (nI w) M3 = some (nI (vf (gR M 4) l w)) := fun w hw h5 => hof M3 w b4 hw h5
          unfold m_X6_append
          rw [isLed_ok (M := oL (nI (vf (gR M 4) l 4)).toInt64 Mc) (by rw [hrc]; exact hI) hl, bind_s, if_neg (show ¬ (1 : Int32) = 0 by decide), show m_X6_in (nI p) 0 999 = 1 from in_ok (n := 1000) hp (by omega), if_neg (show ¬ (1 : Int32) = 0 by decide)]
          unfold m_X6_append_b24
          rw [if_neg (show ¬ (1 : Int32) = 0 by decide), show m_X6_of 3 (nI l) 3 (oL (nI (vf (gR M 4) l 4)).toInt64 Mc) = _ from hof _ 3 hrc (by omega) (by omega), bind_s, show m_X6_of 3 (nI l) 4 (oL (nI (vf (gR M 4) l 4)).toInt64 Mc) = _ from hof _ 4 hrc (by omega) (by omega), bind_s, hq.1, if_pos (show nI 0 = 0 from rfl), if_neg (show ¬ (40 : Int32) ≤ nI (vf (gR M 4) l 4) from nI_ge (b := 40) hq.2 (by omega))]
          unfold m_X6_append_b56
          rw [fine0, if_neg ne10, e3, bind_s, show m_X6_of 3 (nI l) 4 M3 = _ from hM3 4 (by omega) (by omega), bind_s, conf_ok (M := M3) (by omega) (by rw [b4]; exact hL.1) (by rw [b4]; exact h40) (by rw [b4]; have := hL.2.2.2.1; have := hL.2.2.1; have := hL.2.1; omega) (by rw [b4]; exact hL.2.2.2.2.2.2.2.2.2.2.2.2.1), bind_s, b4, show (7 : Int32) = nI 7 from rfl, show (47 : Int32) = nI 47 from rfl, nI_add, nI_add, set_ok (by omega), bind_s, set_ok (by omega), bind_s, show m_X6_set 3 (nI l) 4 _ _ = _ from set_ok (w := 4) (by omega), bind_s, nI_1, gR_self, gR_self, sR_sR, sR_sR, b4]
          exact (hr (sR 4 (rApp (gR M 4) l (vf (gR M 4) l 4) p) M3) (nI p) gR_self).trans (by rw [sR_sR])
        · show go (sR 4 _ M3) 0 = _
          rw [show go (sR 4 r' M3) = go M3 from rfl, go_of b5]
          exact go_oL
      · refine ⟨G, sF 3 3 2 M, case_t (z := m_X6_append 3 (nI l) (nI p)) (M := M) (v := 0) (k := 2) ?_ ?_ gF_self (by decide), h.qu (Qu.rf.s3)⟩
        · unfold m_L_append m_X5_append
          rw [exL_ok hR hI hl, bind_s]
          show Option.bind (if nI p < 0 then _ else if nI p ≤ 999 then (if gF M (91 + 5 * l) 4 = 0 then (if gF M (91 + 5 * l) 5 < 40 then _ else _) else _) else _) _ = _
          rw [if_neg (nI_pos (by omega)), if_pos (le_999 hp), g4, g5]
          by_cases h0 : vf (gR M 4) l 3 = 0
          · rw [h0, if_pos (show nI 0 = 0 from rfl), if_neg (show ¬ nI (vf (gR M 4) l 4) < 40 from nI_nlt (b := 40) (by omega) (by omega))]
            rfl
          · rw [if_neg (nI_ne0 (by omega) (by omega))]
            rfl
        · unfold m_X6_append
          rw [isLed_ok hI hl, bind_s, if_neg (show ¬ (1 : Int32) = 0 by decide), show m_X6_in (nI p) 0 999 = 1 from in_ok (n := 1000) hp (by omega), if_neg (show ¬ (1 : Int32) = 0 by decide)]
          unfold m_X6_append_b24
          rw [if_neg (show ¬ (1 : Int32) = 0 by decide), show m_X6_of 3 (nI l) 3 M = _ from hof _ 3 rfl (by omega) (by omega), bind_s, show m_X6_of 3 (nI l) 4 M = _ from hof _ 4 rfl (by omega) (by omega), bind_s]
          by_cases h0 : vf (gR M 4) l 3 = 0
          · rw [h0, if_pos (show nI 0 = 0 from rfl), if_pos (show (40 : Int32) ≤ nI (vf (gR M 4) l 4) from nI_le (a := 40) (by omega) (by omega))]
            unfold m_X6_append_b56
            rw [fine2, if_pos rfl]
          · rw [if_neg (nI_ne0 (by omega) (by omega))]
            unfold m_X6_append_b56
            rw [fine2, if_pos rfl]
    · refine ⟨G, sF 3 3 1 M, case_t (z := m_X6_append 3 (nI l) y) (M := M) (v := 0) (k := 1) ?_ ?_ gF_self (by decide), h.qu (Qu.rf.s3)⟩
      · unfold m_L_append m_X5_append
        rw [exL_ok hR hI hl, bind_s]
        show Option.bind (if y < 0 then _ else if y ≤ 999 then _ else _) _ = _
        by_cases h0 : y < 0
        · rw [if_pos h0]
          rfl
        · rw [if_neg h0, if_neg (gt_999 (hy.resolve_left h0))]
          rfl
      · unfold m_X6_append
        rw [isLed_ok hI hl, bind_s, if_neg (show ¬ (1 : Int32) = 0 by decide), show m_X6_in y 0 999 = 0 from in_no (n := 1000) (by omega) hy, if_pos rfl]
        unfold m_X6_append_b24
        rw [if_pos rfl]
        unfold m_X6_append_b56
        rw [fine1, if_pos rfl]
  · refine ⟨G, sF 3 3 1 M, case_t (z := m_X6_append 3 x y) (M := M) (v := 0) (k := 1) ?_ ?_ gF_self (by decide), h.qu (Qu.rf.s3)⟩
    · unfold m_L_append m_X5_append
      rw [exL_no hR hI hx, bind_s]
      rfl
    · unfold m_X6_append
      rw [isLed_no hI hx, bind_s, if_pos rfl]
      unfold m_X6_append_b24
      rw [if_pos rfl]
      unfold m_X6_append_b56
      rw [fine1, if_pos rfl]
