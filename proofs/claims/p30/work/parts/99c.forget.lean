/-! replace: forgetting, and requests to the chosen node -/
/-- all of the ledger's cells but its acknowledgements are the same -/
def La (r r' : Nat → Int32) (l : Nat) : Prop := ∀ w, w < 333 → (w < 47 ∨ 87 ≤ w) → r' (2131 + 333 * l + w) = r (2131 + 333 * l + w)
section FGT
variable {nc lc l f n c old : Nat} {r : Nat → Int32}
theorem La.v {r' : Nat → Int32} {w : Nat} (h : La r r' l) (hw : w < 333) (hw2 : w < 47 ∨ 87 ≤ w) : vf r' l w = vf r l w := vf_o (h w hw hw2)
theorem fg_both (hold : old < 8) : ∀ (d e : Nat) (r : Nat → Int32), Inv r nc lc → l < lc → e + d = vf r l 4 → vf r l (87 + (vf r l 6 - 1)) ≤ e → ∃ r', Inv r' nc lc ∧ La r r' l ∧
    (∀ M g x v5 v6 v7, gR M 4 = r → d < g → m_X6_replace_L235 3 (nI l) x g v5 v6 v7 (nI old) (nI e) M = m_X6_replace_L283 3 (nI l) x fuel v5 v6 v7 (sR 4 r' M)) ∧
    ∀ M g x, RC 64 r M → d < g → ∃ M', RC 64 r' M' ∧ Fg 64 M M' ∧ m_X0_forgetAcknowledgements_L6 (64 + 27 + 5 * l) x (nI old) g (nI e) M = some M' := by
  intro d
  induction d with
  | zero =>
    intro e r hI hl he hs
    have hL := inv_l hI hl
    have h40 := hL.2.2.2.2.2.1
    refine ⟨r, hI, fun _ _ _ => rfl, fun M g x v5 v6 v7 hM hg => ?_, fun M g x hR hg => ⟨M, hR, Fg.rf, ?_⟩⟩
    · obtain ⟨g, rfl⟩ : ∃ k, g = k + 1 := ⟨g - 1, by omega⟩
      have hof := of_o (M := M) (w := 4) (by rw [hM]; exact hI) hl (by omega) (by omega)
      rw [hM] at hof
      rw [m_X6_replace_L235_s, show m_X6_of 3 (nI l) 4 M = _ from hof, bind_s, if_pos (nI_le (by omega) (by omega)), ← hM, sR_id]
    · obtain ⟨g, rfl⟩ : ∃ k, g = k + 1 := ⟨g - 1, by omega⟩
      have h5 : gF M (64 + 27 + 5 * l) 5 = nI (vf r l 4) := by rw [(rc_l hR hI hl).2.2.2.2.2.1, hL.1 4 (by omega) (by omega)]
      rw [m_X0_forgetAcknowledgements_L6_s, h5, if_pos (nI_le (by omega) (by omega))]
  | succ d ih =>
    intro e r hI hl he hs
    have hL := inv_l hI hl
    have h4 := hI.2.1
    have h40 := hL.2.2.2.2.2.1
    have hF := hL.2.2.2.2.2.2.1
    have hk := hL.2.2.2.2.2.2.2.2.2.2.2.2.1 e (by omega)
    obtain ⟨m, hm⟩ : ∃ m, m = vf r l (47 + e) &&& (2 ^ old ^^^ 255) := ⟨_, rfl⟩
    have hm8 : m < 256 := by rw [hm]; exact Nat.lt_of_le_of_lt Nat.and_le_left hk
    have hval : nI (vf r l (47 + e)) &&& (((1 : Int32) <<< (nI old &&& 31)) ^^^ (-1)) = nI m := by rw [shl1 hold, and_not hk, ← hm]
    have I1 : Inv (rA r l e (nI m)) nc lc := hI.led hl (fun i hi => rA_o (by unfold lIx at hi; omega)) (Nat.le_of_eq (rA_v (by omega)).symm) (hL.ack (by omega) hm8 (fun _ q => by omega))
    have v4 : vf (rA r l e (nI m)) l 4 = vf r l 4 := rA_v (by omega)
    have v6 : vf (rA r l e (nI m)) l 6 = vf r l 6 := rA_v (by omega)
    have v8 : vf (rA r l e (nI m)) l (87 + (vf r l 6 - 1)) = vf r l (87 + (vf r l 6 - 1)) := rA_v (by omega)
    obtain ⟨r', hI', hla, hr, hc⟩ := ih (e + 1) (rA r l e (nI m)) I1 hl (by omega) (by rw [v6, v8]; omega)
    refine ⟨r', hI', fun w hw hw2 => (hla w hw hw2).trans (rA_ne (by omega)), fun M g x v5 v6 v7 hM hg => ?_, fun M g x hR hg => ?_⟩
    · obtain ⟨g, rfl⟩ : ∃ k, g = k + 1 := ⟨g - 1, by omega⟩
      have hIM : Inv (gR M 4) nc lc := by rw [hM]; exact hI
      have hof := of_o (M := M) (w := 4) hIM hl (by omega) (by omega)
      have hof2 := of_o (M := M) (w := 47 + e) hIM hl (by omega) (by omega)
      rw [hM] at hof hof2
      rw [m_X6_replace_L235_s, show m_X6_of 3 (nI l) 4 M = _ from hof, bind_s, if_neg (nI_ge (by omega) (by omega)), show (47 : Int32) = nI 47 from rfl, nI_add, hof2, bind_s, hval, set_ok (by omega), bind_s, hM, nI_1]
      refine (hr (sR 4 (rA r l e (nI m)) M) g x v5 v6 v7 gR_self (by omega)).trans ?_
      rw [sR_sR]
    · obtain ⟨g, rfl⟩ : ∃ k, g = k + 1 := ⟨g - 1, by omega⟩
      have hC := rc_l hR hI hl
      have h5 : gF M (64 + 27 + 5 * l) 5 = nI (vf r l 4) := by rw [hC.2.2.2.2.2.1, hL.1 4 (by omega) (by omega)]
      have R1 : RC 64 (rA r l e (nI m)) (sR (64 + 27 + 5 * l + 2) (upd (gR M (64 + 27 + 5 * l + 2)) e (nI m)) M) := RC.led hR hI hl (Fc.rf.sR (by omega)) (fun i hi => rA_o (by unfold lIx at hi; omega)) (hC.ack hL (by omega))
      obtain ⟨M', R2, F2, e2⟩ := hc _ g x R1 (by omega)
      refine ⟨M', R2, (Fg.rf.sR (by omega)).tr F2, ?_⟩
      rw [m_X0_forgetAcknowledgements_L6_s, h5, if_neg (nI_ge (by omega) (by omega)), show (40 : Int32) = nI 40 from rfl, if_neg (nI_ge (by omega) (by omega)), ck_ix (by omega) (by omega), ck_ix (by omega) (by omega), aI_nI (by omega), cl_nI (by omega), hC.2.2.2.2.2.2.2.2.2.1 e (by omega) (by omega), hL.1 (47 + e) (by omega) (by omega), hval, nI_1]
      exact e2
theorem frg_last {e : Nat} (hf : f + 1 = vf r l 6) (he : vf r l (87 + f) ≤ e) : frg r l e = f := by
  show rFr (fun f => vf r l (87 + f)) e (vf r l 6) = f
  rw [← hf]
  show (if vf r l (87 + f) ≤ e then f else _) = f
  rw [if_pos he]
theorem rs_both (hc : c ≤ 40) : ∀ (d e : Nat) (r : Nat → Int32), Inv r nc lc → l < lc → n < nc → e + d = vf r l 4 → f + 1 = vf r l 6 → vf r l (87 + f) ≤ e → ∃ r', Inv r' nc lc ∧
    (∀ M g x, gR M 4 = r → d < g → m_X6_replace_L283 3 (nI l) x g (nI n) (nI c - 1) (nI e) M = some (nI n, sR 4 r' M)) ∧
    ∀ M g x, RC 64 r M → d < g → ∃ M', RC 64 r' M' ∧ Fg 64 M M' ∧ m_X3_changeEnsemble_L64 64 (64 + 27 + 5 * l) x (nI n) g (nI c - 1) (nI e) M = some M' := by
  intro d
  induction d with
  | zero =>
    intro e r hI hl hn he hf hs
    have hL := inv_l hI hl
    have h40 := hL.2.2.2.2.2.1
    refine ⟨r, hI, fun M g x hM hg => ?_, fun M g x hR hg => ⟨M, hR, Fg.rf, ?_⟩⟩
    · obtain ⟨g, rfl⟩ : ∃ k, g = k + 1 := ⟨g - 1, by omega⟩
      have hof := of_o (M := M) (w := 4) (by rw [hM]; exact hI) hl (by omega) (by omega)
      rw [hM] at hof
      rw [m_X6_replace_L283_s, show m_X6_of 3 (nI l) 4 M = _ from hof, bind_s, if_pos (nI_le (by omega) (by omega)), ← hM, sR_id]
    · obtain ⟨g, rfl⟩ : ∃ k, g = k + 1 := ⟨g - 1, by omega⟩
      have h5 : gF M (64 + 27 + 5 * l) 5 = nI (vf r l 4) := by rw [(rc_l hR hI hl).2.2.2.2.2.1, hL.1 4 (by omega) (by omega)]
      rw [m_X3_changeEnsemble_L64_s, h5, if_pos (nI_le (by omega) (by omega))]
  | succ d ih =>
    intro e r hI hl hn he hf hs
    have hL := inv_l hI hl
    have h4 := hI.2.1
    have h8 := hI.1
    have h40 := hL.2.2.2.2.2.1
    have hp := hL.2.2.2.2.2.2.2.2.2.2.2.2.2.1 e (by omega)
    have hfr := frg_last hf hs
    have hq : QC r lc (nI (rq l e c (vf r l (7 + e)))) := ⟨l, e, c, vf r l (7 + e), hl, by omega, hc, hp, rfl⟩
    have hb : wsM r l f e < 256 := orB_lt (fun i _ => Nat.lt_of_lt_of_le (ws_lt hL (by omega)) h8)
    have hls : Ls r (rSend r n (nI (rq l e c (vf r l (7 + e))))) := ls_send (by omega)
    have hI1 : Inv (rSend r n (nI (rq l e c (vf r l (7 + e))))) nc lc := by
      obtain ⟨w, hw, k1, k2, k3⟩ := (inv_n hI hn).2.1
      unfold rSend
      split
      · rename_i hs
        rw [k1, cl_nI (by omega)] at hs ⊢
        exact hI.node hn (fun i hi => rRecv_ne (by unfold nIx at hi; omega) (by unfold nIx at hi; omega)) (recv_NI (by omega) (inv_n hI hn) hs.1 k1 hs.2 hq hI.2.1)
      · exact hI
    have href : ∀ M, gR M 4 = r → m_X6_of 3 (nI l) 4 M = some (nI (vf r l 4)) ∧ m_X6_isWriter 3 (nI l) (nI e) (nI n) M = some (if (wsM r l f e).testBit n then 1 else 0) ∧ m_X6_send 3 (nI n) (nI l) (nI e) (nI c - 1) M = some (sR 4 (rSend r n (nI (rq l e c (vf r l (7 + e))))) M) := fun M hM => by
      subst hM
      have h2 := isw_ok (M := M) (e := e) hI hl hn (by omega)
      rw [hfr] at h2
      exact ⟨of_o (w := 4) hI hl (by omega) (by omega), h2, send_o hI hn hl (by omega)⟩
    have hcls : ∀ M, RC 64 r M → gF M (64 + 27 + 5 * l) 5 = nI (vf r l 4) ∧ m_X0_writeSetMask (64 + 27 + 5 * l) (m_X0_lastFragment (64 + 27 + 5 * l) M) (nI e) M = some (nI (wsM r l f e)) ∧ m_X0_payloadOf (64 + 27 + 5 * l) (nI e) M = some (nI (vf r l (7 + e))) ∧ gF M (64 + 27 + 5 * l) 0 = nI l := fun M hR => by
      have hC := rc_l hR hI hl
      have h7 : m_X0_lastFragment (64 + 27 + 5 * l) M = nI f := by
        unfold m_X0_lastFragment
        rw [hC.2.2.2.2.2.2.2.1, hL.1 6 (by omega) (by omega), ← hf, nI_sub1 (by omega), Nat.add_sub_cancel]
      exact ⟨by rw [hC.2.2.2.2.2.1, hL.1 4 (by omega) (by omega)], by rw [h7]; exact wsM_ok hC hL h8 (by omega) (by omega), payOf_ok hC hL (by omega), hC.1⟩
    by_cases ht : (wsM r l f e).testBit n = true
    · obtain ⟨r', hI', hr, hcl⟩ := ih (e + 1) _ hI1 hl hn (by rw [lsv hls]; omega) (by rw [lsv hls]; exact hf) (by rw [lsv hls]; omega)
      refine ⟨r', hI', fun M g x hM hg => ?_, fun M g x hR hg => ?_⟩
      · obtain ⟨g, rfl⟩ : ∃ k, g = k + 1 := ⟨g - 1, by omega⟩
        obtain ⟨q1, q2, q3⟩ := href M hM
        rw [m_X6_replace_L283_s, q1, bind_s, if_neg (nI_ge (by omega) (by omega)), q2, bind_s, if_pos ht, if_neg (show ¬ (1 : Int32) = 0 by decide), q3, bind_s, nI_1, hr _ g x gR_self (by omega), sR_sR]
      · obtain ⟨g, rfl⟩ : ∃ k, g = k + 1 := ⟨g - 1, by omega⟩
        obtain ⟨q1, q2, q3, q4⟩ := hcls M hR
        obtain ⟨N, e1, R1, -, F1, -⟩ := csend2 (by omega) hR hI hn hq
        rw [rqc_rq (by omega) (by omega) (by omega) (by omega)] at e1
        obtain ⟨M', R2, F2, e2⟩ := hcl N g x R1 (by omega)
        refine ⟨M', R2, F1.tr F2, ?_⟩
        rw [m_X3_changeEnsemble_L64_s, q1, if_neg (nI_ge (by omega) (by omega)), q2, bind_s, contains_ok hb (by omega), if_pos ht, if_neg (show ¬ (1 : Int32) = 0 by decide), q3, bind_s, q4, of_pz (by omega) (by omega) (by omega) (by omega), e1, bind_s, nI_1]
        exact e2
    · obtain ⟨r', hI', hr, hcl⟩ := ih (e + 1) r hI hl hn (by omega) hf (by omega)
      refine ⟨r', hI', fun M g x hM hg => ?_, fun M g x hR hg => ?_⟩
      · obtain ⟨g, rfl⟩ : ∃ k, g = k + 1 := ⟨g - 1, by omega⟩
        obtain ⟨q1, q2, q3⟩ := href M hM
        rw [m_X6_replace_L283_s, q1, bind_s, if_neg (nI_ge (by omega) (by omega)), q2, bind_s, if_neg ht, if_pos rfl, nI_1]
        exact hr M g x hM (by omega)
      · obtain ⟨g, rfl⟩ : ∃ k, g = k + 1 := ⟨g - 1, by omega⟩
        obtain ⟨q1, q2, q3, q4⟩ := hcls M hR
        obtain ⟨M', R2, F2, e2⟩ := hcl M g x hR (by omega)
        refine ⟨M', R2, F2, ?_⟩
        rw [m_X3_changeEnsemble_L64_s, q1, if_neg (nI_ge (by omega) (by omega)), q2, bind_s, contains_ok hb (by omega), if_neg ht, if_pos rfl, nI_1]
        exact e2
/-- from the last fragment on: a node takes the position, acknowledgements are forgotten, requests are sent -/
theorem bcd_both {pos : Nat} (hI : Inv r nc lc) (hl : l < lc) (hf : f + 1 = vf r l 6) (hs : vf r l (87 + f) = c) (hce : c ≤ vf r l 4) (hpos : pos < vf r l 0) (hn : n < nc) (hb : ∀ q, q < vf r l 0 → mbf r l f q ≠ n) (hold : old < 8) : ∃ r', Inv r' nc lc ∧
    (∀ M, gR M 4 = r → m_X6_replace_b214 3 (nI l) (nI pos) (nI f) (nI n) (nI c - 1) (nI c) (nI old) M = some (nI n, sR 4 r' M)) ∧
    ∀ M, RC 64 r M → ∃ M', RC 64 r' M' ∧ Fg 64 M M' ∧ m_X3_changeEnsemble_b42 64 (64 + 27 + 5 * l) (nI pos) (nI n) (nI c - 1) (nI c) (nI old) M = some M' := by
  have h8 := hI.1
  have h4 := hI.2.1
  have hL := inv_l hI hl
  have hE := hL.2.1
  have h40 := hL.2.2.2.2.2.1
  have hF := hL.2.2.2.2.2.2.1
  have I1 := mb_I (n := n) (f := f) (p := pos) hI hl (by omega) hpos hn (fun q hq _ => hb q hq)
  have u4 : vf (rMb r l f pos n) l 4 = vf r l 4 := mb_v (by omega)
  have u6 : vf (rMb r l f pos n) l 6 = vf r l 6 := mb_v (by omega)
  have u8 : vf (rMb r l f pos n) l (87 + f) = vf r l (87 + f) := mb_v (by omega)
  obtain ⟨r2, I2, L2, hr2, hc2⟩ := fg_both (old := old) hold (vf r l 4 - c) c (rMb r l f pos n) I1 hl (by omega) (by rw [u6, ← hf, Nat.add_sub_cancel, u8]; omega)
  have w4 : vf r2 l 4 = vf r l 4 := (L2.v (by omega) (by omega)).trans u4
  have w6 : vf r2 l 6 = vf r l 6 := (L2.v (by omega) (by omega)).trans u6
  have w8 : vf r2 l (87 + f) = c := ((L2.v (by omega) (by omega)).trans u8).trans hs
  obtain ⟨r', I3, hr3, hc3⟩ := rs_both (c := c) (n := n) (f := f) (l := l) (by omega) (vf r l 4 - c) c r2 I2 hl hn (by omega) (by omega) (by omega)
  refine ⟨r', I3, fun M hM => ?_, fun M hR => ?_⟩
  · unfold m_X6_replace_b214
    rw [show (128 : Int32) = nI 128 from rfl, show (5 : Int32) = nI 5 from rfl, nI_mul, nI_add, nI_add, set_ok (by omega), bind_s, hM]
    refine (hr2 (sR 4 (rMb r l f pos n) M) fuel (nI pos) (nI n) (nI c - 1) (nI c) gR_self (by unfold fuel; omega)).trans ?_
    rw [sR_sR, hr3 _ fuel (nI pos) gR_self (by unfold fuel; omega), sR_sR]
  · have hC := rc_l hR hI hl
    have h7 : m_X0_lastFragment (64 + 27 + 5 * l) M = nI f := by
      unfold m_X0_lastFragment
      rw [hC.2.2.2.2.2.2.2.1, hL.1 6 (by omega) (by omega), ← hf, nI_sub1 (by omega), Nat.add_sub_cancel]
    obtain ⟨N0, e0, R0, F0⟩ := mb_R (n := n) (f := f) (p := pos) hR hI hl (by omega) hpos
    obtain ⟨N1, R1, F1, e1⟩ := hc2 N0 fuel (nI c) R0 (by unfold fuel; omega)
    obtain ⟨M', R2, F2, e2⟩ := hc3 N1 fuel (nI pos) R1 (by unfold fuel; omega)
    refine ⟨M', R2, (F0.tr F1).tr F2, ?_⟩
    unfold m_X3_changeEnsemble_b42 m_X0_forgetAcknowledgements
    rw [h7, e0, bind_s, if_neg (nI_pos (by omega)), e1, bind_s]
    exact e2
end FGT
