/-! replace: forgetting, and requests to the chosen node -/
/-- all of the ledger's cells but its acknowledgements are the same -/
def La (r r' : Nat → Int32) (l : Nat) : Prop := ∀ w, w < 333 → (w < 47 ∨ 87 ≤ w) → r' (2131 + 333 * l + w) = r (2131 + 333 * l + w)
section FGT
variable {nc lc l f n c old : Nat} {r : Nat → Int32}
theorem La.v {r' : Nat → Int32} {w : Nat} (h : La r r' l) (hw : w < 333) (hw2 : w < 47 ∨ 87 ≤ w) : vf r' l w = vf r l w := vf_o (h w hw hw2)
theorem fg_both (hold : old < 8) : ∀ (d e : Nat) (r : Nat → Int32), Inv r nc lc → l < lc → e + d = vf r l 4 → vf r l (87 + (vf r l 6 - 1)) ≤ e → ∃ r', Inv r' nc lc ∧ La r r' l ∧
    (∀ M g x v5 v6 v7, gR M 4 = r → d < g → m_X6_replace_L235 3 (nI l) x g v5 v6 v7 (nI old) (nI e) M = m_X6_replace_L283 3 (nI l) x fuel v5 v6 v7 (sR 4 r' M)) ∧
    (∀ M g x, RC 64 r M → d < g → ∃ M', RC 64 r' M' ∧ Fg 64 M M' ∧ m_X0_forgetAcknowledgements_L6 (64 + 27 + 5 * l) x (nI old) g (nI e) M = some M') ∧
    (∀ i, ¬ (2178 + 333 * l + e ≤ i ∧ i < 2178 + 333 * l + vf r l 4) → r' i = r i) ∧ ∀ k, e ≤ k → k < vf r l 4 → vf r' l (47 + k) = vf r l (47 + k) &&& (2 ^ old ^^^ 255) := by
  intro d
  induction d with
  | zero =>
    intro e r hI hl he hs
    have hL := inv_l hI hl
    have h40 := hL.2.2.2.2.2.1
    refine ⟨r, hI, fun _ _ _ => rfl, fun M g x v5 v6 v7 hM hg => ?_, fun M g x hR hg => ⟨M, hR, Fg.rf, ?_⟩, fun _ _ => rfl, fun k h1 h2 => by omega⟩
    · obtain ⟨g, rfl⟩ : ∃ k, g = k + 1 := ⟨g - 1, by omega⟩
      have hof := of_o (M := M) (w := 4) (by rw [hM]; exact hI) hl (by omega) (by omega)
      rw [hM] at hof
      rw [m_X6_replace_L235_s, show m_X6_of 3 (nI l) 4 M = _ from hof, bind_s, if_pos (nI_le (by omega) (by omega)), ← hM, sR_id]
    · obtain ⟨g, rfl⟩ : ∃ k, g = k + 1 := ⟨g - 1, by omega⟩
      have h5 : gF M (64 + 27 + 5 * l) 5 = nI (vf r l 4) := by rw [(rc_l hR hI hl).2.2.2.2.2.1, hL.1 4 (by omega) (by omega)]
      rw [m_X0_forgetAcknowledgements_L6_s, h5, if_pos (nI_le (by omega) (by omega))]
  | succ d ih =>
    intro e r hI hl he hs
    have hL := inv_l hI hl
    have h4 := hI.2.1
    have h40 := hL.2.2.2.2.2.1
    have hF := hL.2.2.2.2.2.2.1
    have hk := hL.2.2.2.2.2.2.2.2.2.2.2.2.1 e (by omega)
    obtain ⟨m, hm⟩ : ∃ m, m = vf r l (47 + e) &&& (2 ^ old ^^^ 255) := ⟨_, rfl⟩
    have hm8 : m < 256 := by rw [hm]; exact Nat.lt_of_le_of_lt Nat.and_le_left hk
    have hval : nI (vf r l (47 + e)) &&& (((1 : Int32) <<< (nI old &&& 31)) ^^^ (-1)) = nI m := by rw [shl1 hold, and_not hk, ← hm]
    have I1 : Inv (rA r l e (nI m)) nc lc := hI.led hl (fun i hi => rA_o (by unfold lIx at hi; omega)) (Nat.le_of_eq (rA_v (by omega)).symm) (hL.ack (by omega) hm8 (fun _ q => by omega))
    have v4 : vf (rA r l e (nI m)) l 4 = vf r l 4 := rA_v (by omega)
    have v6 : vf (rA r l e (nI m)) l 6 = vf r l 6 := rA_v (by omega)
    have v8 : vf (rA r l e (nI m)) l (87 + (vf r l 6 - 1)) = vf r l (87 + (vf r l 6 - 1)) := rA_v (by omega)
    obtain ⟨r', hI', hla, hr, hc, ho, hb⟩ := ih (e + 1) (rA r l e (nI m)) I1 hl (by omega) (by rw [v6, v8]; omega)
    refine ⟨r', hI', fun w hw hw2 => (hla w hw hw2).trans (rA_ne (by omega)), fun M g x v5 v6 v7 hM hg => ?_, fun M g x hR hg => ?_, fun i hi => (ho i (by omega)).trans (rA_o (by omega)), fun k h1 h2 => ?_⟩
    rotate_right
    · by_cases hq : k = e
      · subst hq
        rw [← hm]
        show cl (r' _) = m
        rw [ho _ (by omega), rA_s, cl_nI (by omega)]
      · rw [hb k (by omega) (by omega), rA_v (by omega)]
    · obtain ⟨g, rfl⟩ : ∃ k, g = k + 1 := ⟨g - 1, by omega⟩
      have hIM : Inv (gR M 4) nc lc := by rw [hM]; exact hI
      have hof := of_o (M := M) (w := 4) hIM hl (by omega) (by omega)
      have hof2 := of_o (M := M) (w := 47 + e) hIM hl (by omega) (by omega)
      rw [hM] at hof hof2
      rw [m_X6_replace_L235_s, show m_X6_of 3 (nI l) 4 M = _ from hof, bind_s, if_neg (nI_ge (by omega) (by omega)), show (47 : Int32) = nI 47 from rfl, nI_add, hof2, bind_s, hval, set_ok (by omega), bind_s, hM, nI_1]
      refine (hr (sR 4 (rA r l e (nI m)) M) g x v5 v6 v7 gR_self (by omega)).trans ?_
      rw [sR_sR]
    · obtain ⟨g, rfl⟩ : ∃ k, g = k + 1 := ⟨g - 1, by omega⟩
      have hC := rc_l hR hI hl
      have h5 : gF M (64 + 27 + 5 * l) 5 = nI (vf r l 4) := by rw [hC.2.2.2.2.2.1, hL.1 4 (by omega) (by omega)]
      have R1 : RC 64 (rA r l e (nI m)) (sR (64 + 27 + 5 * l + 2) (upd (gR M (64 + 27 + 5 * l + 2)) e (nI m)) M) := RC.led hR hI hl (Fc.rf.sR (by omega)) (fun i hi => rA_o (by unfold lIx at hi; omega)) (hC.ack hL (by omega))
      obtain ⟨M', R2, F2, e2⟩ := hc _ g x R1 (by omega)
      refine ⟨M', R2, (Fg.rf.sR (by omega)).tr F2, ?_⟩
      rw [m_X0_forgetAcknowledgements_L6_s, h5, if_neg (nI_ge (by omega) (by omega)), show (40 : Int32) = nI 40 from rfl, if_neg (nI_ge (by omega) (by omega)), ck_ix (by omega) (by omega), ck_ix (by omega) (by omega), aI_nI (by omega), cl_nI (by omega), hC.2.2.2.2.2.2.2.2.2.1 e (by omega) (by omega), hL.1 (47 + e) (by omega) (by omega), hval, nI_1]
      exact e2
theorem frg_last {e : Nat} (hf : f + 1 = vf r l 6) (he : vf r l (87 + f) ≤ e) : frg r l e = f := by
  show rFr (fun f => vf r l (87 + f)) e (vf r l 6) = f
  rw [← hf]
  show (if vf r l (87 + f) ≤ e then f else _) = f
  rw [if_pos he]
theorem rs_both (hc : c ≤ 40) : ∀ (d e : Nat) (r : Nat → Int32), Inv r nc lc → l < lc → n < nc → e + d = vf r l 4 → f + 1 = vf r l 6 → vf r l (87 + f) ≤ e → c ≤ e → ∃ r', Inv r' nc lc ∧
    (∀ M g x, gR M 4 = r → d < g → m_X6_replace_L283 3 (nI l) x g (nI n) (nI c - 1) (nI e) M = some (nI n, sR 4 r' M)) ∧
    (∀ M g x, RC 64 r M → d < g → ∃ M', RC 64 r' M' ∧ Fg 64 M M' ∧ m_X3_changeEnsemble_L64 64 (64 + 27 + 5 * l) x (nI n) g (nI c - 1) (nI e) M = some M') ∧ Go lc 0 r r' := by
  intro d
  induction d with
  | zero =>
    intro e r hI hl hn he hf hs hce
    have hL := inv_l hI hl
    have h40 := hL.2.2.2.2.2.1
    refine ⟨r, hI, fun M g x hM hg => ?_, fun M g x hR hg => ⟨M, hR, Fg.rf, ?_⟩, Go.rf⟩
    · obtain ⟨g, rfl⟩ : ∃ k, g = k + 1 := ⟨g - 1, by omega⟩
      have hof := of_o (M := M) (w := 4) (by rw [hM]; exact hI) hl (by omega) (by omega)
      rw [hM] at hof
      rw [m_X6_replace_L283_s, show m_X6_of 3 (nI l) 4 M = _ from hof, bind_s, if_pos (nI_le (by omega) (by omega)), ← hM, sR_id]
    · obtain ⟨g, rfl⟩ : ∃ k, g = k + 1 := ⟨g - 1, by omega⟩
      have h5 : gF M (64 + 27 + 5 * l) 5 = nI (vf r l 4) := by rw [(rc_l hR hI hl).2.2.2.2.2.1, hL.1 4 (by omega) (by omega)]
      rw [m_X3_changeEnsemble_L64_s, h5, if_pos (nI_le (by omega) (by omega))]
  | succ d ih =>
    intro e r hI hl hn he hf hs hce
    have hL := inv_l hI hl
    have h4 := hI.2.1
    have h8 := hI.1
    have h40 := hL.2.2.2.2.2.1
    have hp := hL.2.2.2.2.2.2.2.2.2.2.2.2.2.1 e (by omega)
    have hfr := frg_last hf hs
    have hq : QC r lc (nI (rq l e c (vf r l (7 + e)))) := ⟨l, e, c, vf r l (7 + e), hl, by omega, hc, hp, rfl⟩
    have hb : wsM r l f e < 256 := orB_lt (fun i _ => Nat.lt_of_lt_of_le (ws_lt hL (by omega)) h8)
    have hls : Ls r (rSend r n (nI (rq l e c (vf r l (7 + e))))) := ls_send (by omega)
    have hI1 : Inv (rSend r n (nI (rq l e c (vf r l (7 + e))))) nc lc := by
      obtain ⟨w, hw, k1, k2, k3⟩ := (inv_n hI hn).2.1
      unfold rSend
      split
      · rename_i hs
        rw [k1, cl_nI (by omega)] at hs ⊢
        exact hI.node hn (fun i hi => rRecv_ne (by unfold nIx at hi; omega) (by unfold nIx at hi; omega)) (recv_NI (by omega) (inv_n hI hn) hs.1 k1 hs.2 hq hI.2.1)
      · exact hI
    have href : ∀ M, gR M 4 = r → m_X6_of 3 (nI l) 4 M = some (nI (vf r l 4)) ∧ m_X6_isWriter 3 (nI l) (nI e) (nI n) M = some (if (wsM r l f e).testBit n then 1 else 0) ∧ m_X6_send 3 (nI n) (nI l) (nI e) (nI c - 1) M = some (sR 4 (rSend r n (nI (rq l e c (vf r l (7 + e))))) M) := fun M hM => by
      subst hM
      have h2 := isw_ok (M := M) (e := e) hI hl hn (by omega)
      rw [hfr] at h2
      exact ⟨of_o (w := 4) hI hl (by omega) (by omega), h2, send_o hI hn hl (by omega)⟩
    have hcls : ∀ M, RC 64 r M → gF M (64 + 27 + 5 * l) 5 = nI (vf r l 4) ∧ m_X0_writeSetMask (64 + 27 + 5 * l) (m_X0_lastFragment (64 + 27 + 5 * l) M) (nI e) M = some (nI (wsM r l f e)) ∧ m_X0_payloadOf (64 + 27 + 5 * l) (nI e) M = some (nI (vf r l (7 + e))) ∧ gF M (64 + 27 + 5 * l) 0 = nI l := fun M hR => by
      have hC := rc_l hR hI hl
      have h7 : m_X0_lastFragment (64 + 27 + 5 * l) M = nI f := by
        unfold m_X0_lastFragment
        rw [hC.2.2.2.2.2.2.2.1, hL.1 6 (by omega) (by omega), ← hf, nI_sub1 (by omega), Nat.add_sub_cancel]
      exact ⟨by rw [hC.2.2.2.2.2.1, hL.1 4 (by omega) (by omega)], by rw [h7]; exact wsM_ok hC hL h8 (by omega) (by omega), payOf_ok hC hL (by omega), hC.1⟩
    by_cases ht : (wsM r l f e).testBit n = true
    · obtain ⟨r', hI', hr, hcl, hg2⟩ := ih (e + 1) _ hI1 hl hn (by rw [lsv hls]; omega) (by rw [lsv hls]; exact hf) (by rw [lsv hls]; omega) (by omega)
      refine ⟨r', hI', fun M g x hM hg => ?_, fun M g x hR hg => ?_, (Go.send hI (by omega) (by omega) (by omega) hce (by omega)).tr hg2⟩
      · obtain ⟨g, rfl⟩ : ∃ k, g = k + 1 := ⟨g - 1, by omega⟩
        obtain ⟨q1, q2, q3⟩ := href M hM
        rw [m_X6_replace_L283_s, q1, bind_s, if_neg (nI_ge (by omega) (by omega)), q2, bind_s, if_pos ht, if_neg (show ¬ (1 : Int32) = 0 by decide), q3, bind_s, nI_1, hr _ g x gR_self (by omega), sR_sR]
      · obtain ⟨g, rfl⟩ : ∃ k, g = k + 1 := ⟨g - 1, by omega⟩
        obtain ⟨q1, q2, q3, q4⟩ := hcls M hR
        obtain ⟨N, e1, R1, -, F1, -⟩ := csend2 (by omega) hR hI hn hq
        rw [rqc_rq (by omega) (by omega) (by omega) (by omega)] at e1
        obtain ⟨M', R2, F2, e2⟩ := hcl N g x R1 (by omega)
        refine ⟨M', R2, F1.tr F2, ?_⟩
        rw [m_X3_changeEnsemble_L64_s, q1, if_neg (nI_ge (by omega) (by omega)), q2, bind_s, contains_ok hb (by omega), if_pos ht, if_neg (show ¬ (1 : Int32) = 0 by decide), q3, bind_s, q4, of_pz (by omega) (by omega) (by omega) (by omega), e1, bind_s, nI_1]
        exact e2
    · obtain ⟨r', hI', hr, hcl, hg2⟩ := ih (e + 1) r hI hl hn (by omega) hf (by omega) (by omega)
      refine ⟨r', hI', fun M g x hM hg => ?_, fun M g x hR hg => ?_, hg2⟩
      · obtain ⟨g, rfl⟩ : ∃ k, g = k + 1 := ⟨g - 1, by omega⟩
        obtain ⟨q1, q2, q3⟩ := href M hM
        rw [m_X6_replace_L283_s, q1, bind_s, if_neg (nI_ge (by omega) (by omega)), q2, bind_s, if_neg ht, if_pos rfl, nI_1]
        exact hr M g x hM (by omega)
      · obtain ⟨g, rfl⟩ : ∃ k, g = k + 1 := ⟨g - 1, by omega⟩
        obtain ⟨q1, q2, q3, q4⟩ := hcls M hR
        obtain ⟨M', R2, F2, e2⟩ := hcl M g x hR (by omega)
        refine ⟨M', R2, F2, ?_⟩
        rw [m_X3_changeEnsemble_L64_s, q1, if_neg (nI_ge (by omega) (by omega)), q2, bind_s, contains_ok hb (by omega), if_neg ht, if_pos rfl, nI_1]
        exact e2
theorem tb_clear {a o m : Nat} (ho : o < 8) (h : (a &&& (2 ^ o ^^^ 255)).testBit m = true) : a.testBit m = true ∧ m ≠ o := by
  rw [Nat.testBit_and, Bool.and_eq_true, Nat.testBit_xor] at h
  refine ⟨h.1, fun q => ?_⟩
  subst q
  have h2 := h.2
  rw [Nat.testBit_two_pow_self, (show ∀ n < 8, (255 : Nat).testBit n = true by decide) m ho] at h2
  cases h2
/-- a node takes a position of the last fragment, and what the other one acknowledged there is forgotten -/
theorem Y.rpl {r3 : Nat → Int32} {pos : Nat} (hI : Inv r nc lc) (hl : l < lc) (h0 : vf r l 3 = 0) (hf : f + 1 = vf r l 6) (hs : vf r l (87 + f) = c) (hcf : rCf r l = c) (hpos : pos < vf r l 0) (hn : n < 8) (hold : mbf r l f pos = old) (ho8 : old < 8)
    (ho : ∀ i, ¬ (2178 + 333 * l + c ≤ i ∧ i < 2178 + 333 * l + vf r l 4) → r3 i = rMb r l f pos n i) (hb : ∀ k, c ≤ k → k < vf r l 4 → vf r3 l (47 + k) = vf r l (47 + k) &&& (2 ^ old ^^^ 255)) (hY : Y r lc) : Y r3 lc ∧ ∀ k, k < lc → fl r k ≤ fl r3 k := by
  have h4 := hI.2.1
  have hL := inv_l hI hl
  have h40 := hL.2.2.2.2.2.1
  have hF := hL.2.2.2.2.2.2.1
  have hE := hL.2.1
  have hW := hL.2.2.1
  have hc4 : c ≤ vf r l 4 := by rw [← hcf]; exact rCf_le
  have hoo : ∀ i, ¬ (2178 + 333 * l + c ≤ i ∧ i < 2178 + 333 * l + vf r l 4) → i ≠ 2131 + 333 * l + (128 + 5 * f + pos) → r3 i = r i := fun i h1 h2 => (ho i h1).trans (upd_n h2)
  have hv : ∀ w, w < 47 ∨ 87 ≤ w → w ≠ 128 + 5 * f + pos → w < 333 → vf r3 l w = vf r l w := fun w h1 h2 h3 => vfo (hoo _ (by omega) (by omega))
  have hva : ∀ k, k < c → vf r3 l (47 + k) = vf r l (47 + k) := fun k hk => vfo (hoo _ (by omega) (by omega))
  have v0 := hv 0 (by omega) (by omega) (by omega)
  have v1 := hv 1 (by omega) (by omega) (by omega)
  have v2 := hv 2 (by omega) (by omega) (by omega)
  have v3 := hv 3 (by omega) (by omega) (by omega)
  have v4 := hv 4 (by omega) (by omega) (by omega)
  have v6 := hv 6 (by omega) (by omega) (by omega)
  have v8 : ∀ g, g < 41 → vf r3 l (87 + g) = vf r l (87 + g) := fun g hg => hv (87 + g) (by omega) (by omega) (by omega)
  have hfr : ∀ e, frg r3 l e = frg r l e := fun e => by
    show rFr _ e (vf r3 l 6) = rFr _ e (vf r l 6)
    rw [v6]
    exact rFr_congr _ (fun g hg => v8 g (by omega))
  have hmo : ∀ g q, q < 5 → g < 41 → ¬ (g = f ∧ q = pos) → mbf r3 l g q = mbf r l g q := fun g q hq hg h => hv (128 + 5 * g + q) (by omega) (by omega) (by omega)
  have hcf3 : rCf r l ≤ rCf r3 l := by
    rcases lead_ge (q := fun k => decide (vf r3 l 2 ≤ pc (vf r3 l (47 + k)))) (vf r3 l 4) 0 (rCf r l) (by omega) (fun k _ hk => by
      rw [v2, hva k (by omega)]
      exact lead_q (q := fun e => decide (vf r l 2 ≤ pc (vf r l (47 + e)))) (vf r l 4) 0 k (Nat.zero_le _) hk) with h | h
    · exact h
    · omega
  have hlast : ∀ e, c ≤ e → frg r l e = f := fun e he => frg_last hf (by omega)
  have hfirst : ∀ e, e < c → frg r l e ≠ f := fun e he q => by
    have h1 : vf r l (87 + frg r l e) ≤ e ∨ frg r l e = 0 := by
      have : ∀ F, vf r l (87 + rFr (fun f => vf r l (87 + f)) e F) ≤ e ∨ rFr (fun f => vf r l (87 + f)) e F = 0 := by
        intro F
        induction F with
        | zero => exact Or.inr rfl
        | succ F ih =>
          unfold rFr
          split
          · rename_i h; exact Or.inl h
          · exact ih
      exact this _
    rcases h1 with h1 | h1
    · rw [q] at h1; omega
    · rw [q] at h1
      subst h1
      have := hL.2.2.2.2.2.2.2.1
      rw [Nat.add_zero] at hs
      omega
  have key : ∀ k, k < lc → YL r3 k ∧ fl r k ≤ fl r3 k := fun k hk => by
    by_cases hkl : k = l
    · subst hkl
      obtain ⟨hK, hC⟩ := (hY.2.2 k hk).1 (by omega)
      refine ⟨⟨fun _ => ⟨fun e m he hm hbit => ?_, fun e he => ?_⟩, fun q => by omega⟩, ?_⟩
      · rw [v4] at he
        rw [hoo _ (by omega) (by omega), hfr]
        by_cases hec : e < c
        · rw [hva e hec] at hbit
          obtain ⟨a, b⟩ := hK e m he hm hbit
          refine ⟨a, ?_⟩
          have hne := hfirst e hec
          have hlt := frg_lt (e := e) hL
          obtain ⟨i, hi, hin⟩ := orB_bit.mp b
          refine orB_bit.mpr ⟨i, by rw [v1]; exact hi, ?_⟩
          show mbf r3 k (frg r k e) ((e + i) % vf r3 k 0) = m
          have := Nat.mod_lt (e + i) (show 0 < vf r k 0 by omega)
          rw [v0, hmo _ _ (by omega) (by omega) (fun q => hne q.1)]
          exact hin
        · rw [hb e (by omega) he] at hbit
          obtain ⟨hbit, hmold⟩ := tb_clear ho8 hbit
          obtain ⟨a, b⟩ := hK e m he hm hbit
          refine ⟨a, ?_⟩
          rw [hlast e (by omega)] at b ⊢
          obtain ⟨i, hi, hin⟩ := orB_bit.mp b
          refine orB_bit.mpr ⟨i, by rw [v1]; exact hi, ?_⟩
          show mbf r3 k f ((e + i) % vf r3 k 0) = m
          have := Nat.mod_lt (e + i) (show 0 < vf r k 0 by omega)
          rw [v0, hmo _ _ (by omega) (by omega) (fun q => by
            rw [q.2, hold] at hin
            exact hmold hin.symm)]
          exact hin
      · rw [v6, v8 _ (by omega), show vf r k 6 - 1 = f by omega, hs] at he
        rw [v2, hva e he]
        exact hC e (by rw [show vf r k 6 - 1 = f by omega, hs]; exact he)
      · unfold fl
        rw [if_neg (by omega), if_neg (by omega)]
        exact hcf3
    · exact YL.congr (inv_l hI hk) (fun w _ => hoo _ (by omega) (by omega)) (fun n e _ _ q => by rw [hoo _ (by omega) (by omega)]; exact q) (hY.2.2 k hk)
  refine ⟨⟨fun n' l' e' hn' hl' he' hs => ?_, fun n' i hn' hi h100 => ?_, fun k hk => (key k hk).1⟩, fun k hk => (key k hk).2⟩
  · rw [hoo _ (by omega) (by omega)] at hs ⊢
    have hfp : 5 * f + pos < 205 := by omega
    rw [vfo (hoo _ (by omega) (fun q => by rcases (show l' = l ∨ l' + 1 ≤ l ∨ l + 1 ≤ l' by omega) with h | h | h <;> omega))]
    exact hY.1 n' l' e' hn' hl' he' hs
  · rw [hoo _ (by omega) (by omega)] at hi
    rw [hoo _ (by omega) (by omega)]
    exact hY.2.1 n' i hn' hi h100
/-- from the last fragment on: a node takes the position, acknowledgements are forgotten, requests are sent -/
theorem bcd_both {pos : Nat} (hI : Inv r nc lc) (hl : l < lc) (hf : f + 1 = vf r l 6) (hs : vf r l (87 + f) = c) (hce : c ≤ vf r l 4) (hpos : pos < vf r l 0) (hn : n < nc) (hb : ∀ q, q < vf r l 0 → mbf r l f q ≠ n) (hold : old < 8) (h0 : vf r l 3 = 0) (hcf : rCf r l = c) (hom : mbf r l f pos = old) : ∃ r', Inv r' nc lc ∧
    (∀ M, gR M 4 = r → m_X6_replace_b214 3 (nI l) (nI pos) (nI f) (nI n) (nI c - 1) (nI c) (nI old) M = some (nI n, sR 4 r' M)) ∧
    (∀ M, RC 64 r M → ∃ M', RC 64 r' M' ∧ Fg 64 M M' ∧ m_X3_changeEnsemble_b42 64 (64 + 27 + 5 * l) (nI pos) (nI n) (nI c - 1) (nI c) (nI old) M = some M') ∧ Go lc 0 r r' := by
  have h8 := hI.1
  have h4 := hI.2.1
  have hL := inv_l hI hl
  have hE := hL.2.1
  have h40 := hL.2.2.2.2.2.1
  have hF := hL.2.2.2.2.2.2.1
  have I1 := mb_I (n := n) (f := f) (p := pos) hI hl (by omega) hpos hn (fun q hq _ => hb q hq)
  have u4 : vf (rMb r l f pos n) l 4 = vf r l 4 := mb_v (by omega)
  have u6 : vf (rMb r l f pos n) l 6 = vf r l 6 := mb_v (by omega)
  have u8 : vf (rMb r l f pos n) l (87 + f) = vf r l (87 + f) := mb_v (by omega)
  obtain ⟨r2, I2, L2, hr2, hc2, ho2, hb2⟩ := fg_both (old := old) hold (vf r l 4 - c) c (rMb r l f pos n) I1 hl (by omega) (by rw [u6, ← hf, Nat.add_sub_cancel, u8]; omega)
  have w4 : vf r2 l 4 = vf r l 4 := (L2.v (by omega) (by omega)).trans u4
  have w6 : vf r2 l 6 = vf r l 6 := (L2.v (by omega) (by omega)).trans u6
  have w8 : vf r2 l (87 + f) = c := ((L2.v (by omega) (by omega)).trans u8).trans hs
  obtain ⟨r', I3, hr3, hc3, hg3⟩ := rs_both (c := c) (n := n) (f := f) (l := l) (by omega) (vf r l 4 - c) c r2 I2 hl hn (by omega) (by omega) (by omega) (Nat.le_refl _)
  have hg2 : Go lc 0 r r2 := ⟨fun hY => Y.rpl hI hl h0 hf hs hcf hpos (by omega) hom hold (fun i hi => ho2 i (by rw [u4]; exact hi)) (fun k h1 h2 => by
    rw [hb2 k h1 (by omega), mb_v (by omega)]) hY, fun k hk => ⟨k, by rw [ho2 2 (by omega)]; exact (upd_n (by omega)).trans hk, by omega⟩, Ke.of h4 (fun m hm => (ho2 _ (by omega)).trans (upd_n (by omega))) (fun k hk => (ho2 _ (by omega)).trans (upd_n (fun q => by rcases (show k = l ∨ k + 1 ≤ l ∨ l + 1 ≤ k by omega) with h | h | h <;> omega)))⟩
  refine ⟨r', I3, fun M hM => ?_, fun M hR => ?_, hg2.tr hg3⟩
  · unfold m_X6_replace_b214
    rw [show (128 : Int32) = nI 128 from rfl, show (5 : Int32) = nI 5 from rfl, nI_mul, nI_add, nI_add, set_ok (by omega), bind_s, hM]
    refine (hr2 (sR 4 (rMb r l f pos n) M) fuel (nI pos) (nI n) (nI c - 1) (nI c) gR_self (by unfold fuel; omega)).trans ?_
    rw [sR_sR, hr3 _ fuel (nI pos) gR_self (by unfold fuel; omega), sR_sR]
  · have hC := rc_l hR hI hl
    have h7 : m_X0_lastFragment (64 + 27 + 5 * l) M = nI f := by
      unfold m_X0_lastFragment
      rw [hC.2.2.2.2.2.2.2.1, hL.1 6 (by omega) (by omega), ← hf, nI_sub1 (by omega), Nat.add_sub_cancel]
    obtain ⟨N0, e0, R0, F0⟩ := mb_R (n := n) (f := f) (p := pos) hR hI hl (by omega) hpos
    obtain ⟨N1, R1, F1, e1⟩ := hc2 N0 fuel (nI c) R0 (by unfold fuel; omega)
    obtain ⟨M', R2, F2, e2⟩ := hc3 N1 fuel (nI pos) R1 (by unfold fuel; omega)
    refine ⟨M', R2, (F0.tr F1).tr F2, ?_⟩
    unfold m_X3_changeEnsemble_b42 m_X0_forgetAcknowledgements
    rw [h7, e0, bind_s, if_neg (nI_pos (by omega)), e1, bind_s]
    exact e2
end FGT
