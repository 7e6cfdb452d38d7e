/-! requests to an entry's write set -/
/-- the ledgers' cells are the same -/
def Ls (r r' : Nat → Int32) : Prop := ∀ i, 2131 ≤ i → r' i = r i
section LS
variable {r r' : Nat → Int32} {l e f w p : Nat}
theorem Ls.tr {r2 : Nat → Int32} (h : Ls r r') (k : Ls r' r2) : Ls r r2 := fun i hi => (k i hi).trans (h i hi)
theorem lsv (h : Ls r r') : vf r' l w = vf r l w := vf_o (h _ (by omega))
theorem lsf (h : Ls r r') : frg r' l e = frg r l e := by
  have h1 : (fun f => vf r' l (87 + f)) = fun f => vf r l (87 + f) := funext fun f => lsv h
  show rFr (fun f => vf r' l (87 + f)) e (vf r' l 6) = _
  rw [h1, lsv h]
theorem ls_send {n : Nat} {v : Int32} (hn : n < 8) : Ls r (rSend r n v) := fun i hi => rSend_ne (by unfold nIx; omega)
end LS
section SENDS
variable {B nc lc l e c p f : Nat}
theorem send_o {M : Mem} {n : Nat} (hI : Inv (gR M 4) nc lc) (hn : n < nc) (hl : l < lc) (he : e < 40) : m_X6_send 3 (nI n) (nI l) (nI e) (nI c - 1) M = some (sR 4 (rSend (gR M 4) n (nI (rq l e c (vf (gR M 4) l (7 + e))))) M) := by
  have h8 := hI.1
  have h4 := hI.2.1
  obtain ⟨k0, ⟨w, hw, k1, -⟩, -⟩ := inv_n hI hn
  exact send_ok (by omega) (by omega) he ⟨w, hw, k1⟩ k0 ((inv_l hI hl).1 (7 + e) (by omega) (by omega))
theorem sends_both (hB : B % 64 = 0) (hc : c ≤ 40) (hce : c ≤ e) : ∀ (d i : Nat) (r : Nat → Int32), Inv r nc lc → l < lc → e < vf r l 4 → i + d = vf r l 1 → f = frg r l e → vf r l (7 + e) = p → ∃ r', Inv r' nc lc ∧ Ls r r' ∧
    (∀ M g x, gR M 4 = r → d < g → m_X6_append_L118 3 (nI l) x g (nI e) (nI c - 1) (nI i) M = some (nI e, sR 4 r' M)) ∧
    (∀ M g x, RC B r M → d < g → ∃ M', RC B r' M' ∧ Fg B M M' ∧ m_X3_write_L36 B (B + 27 + 5 * l) x g (nI e) (nI (pz l e c p)) (nI f) (nI i) M = some (nI e, M')) ∧ Go lc 0 r r' := by
  intro d
  induction d with
  | zero =>
    intro i r hI hl he hi hf hp
    have hL := inv_l hI hl
    have hW := hL.2.2.1
    have hE := hL.2.1
    refine ⟨r, hI, fun _ _ => rfl, fun M g x hM hg => ?_, fun M g x hR hg => ⟨M, hR, Fg.rf, ?_⟩, Go.rf⟩
    · obtain ⟨g, rfl⟩ : ∃ k, g = k + 1 := ⟨g - 1, by omega⟩
      have hof := of_o (M := M) (w := 1) (by rw [hM]; exact hI) hl (by omega) (by omega)
      rw [hM] at hof
      rw [m_X6_append_L118_s, show m_X6_of 3 (nI l) 1 M = _ from hof, bind_s, if_pos (nI_le (by omega) (by omega)), ← hM, sR_id]
    · obtain ⟨g, rfl⟩ : ∃ k, g = k + 1 := ⟨g - 1, by omega⟩
      have h2 : gF M (B + 27 + 5 * l) 2 = nI (vf r l 1) := by rw [(rc_l hR hI hl).2.2.1, hL.1 1 (by omega) (by omega)]
      rw [m_X3_write_L36_s, h2, if_pos (nI_le (by omega) (by omega))]
  | succ d ih =>
    intro i r hI hl he hi hf hp
    have hL := inv_l hI hl
    have h8 := hI.1
    have h4 := hI.2.1
    have hW := hL.2.2.1
    have hE := hL.2.1
    have h40 := hL.2.2.2.2.2.1
    have h999 := hL.2.2.2.2.2.2.2.2.2.2.2.2.2.1 e he
    have hff : f < vf r l 6 := by rw [hf]; exact frg_lt hL
    have hn := ws_lt (e := e) (i := i) hL hff
    generalize hnn : mbf r l f ((e + i) % vf r l 0) = n at hn
    have hq : QC r lc (nI (rq l e c p)) := ⟨l, e, c, p, hl, he, hc, by omega, rfl⟩
    have hls : Ls r (rSend r n (nI (rq l e c p))) := ls_send (by omega)
    have hI1 : Inv (rSend r n (nI (rq l e c p))) nc lc := by
      obtain ⟨w, hw, k1, k2, k3⟩ := (inv_n hI hn).2.1
      unfold rSend
      split
      · rename_i hs
        rw [k1, cl_nI (by omega)] at hs ⊢
        exact hI.node hn (fun i hi => rRecv_ne (by unfold nIx at hi; omega) (by unfold nIx at hi; omega)) (recv_NI (by omega) (inv_n hI hn) hs.1 k1 hs.2 hq hI.2.1)
      · exact hI
    obtain ⟨r', hI', hls', hr, hcl, hg2⟩ := ih (i + 1) _ hI1 hl (by rw [lsv hls]; exact he) (by rw [lsv hls]; omega) (by rw [lsf hls]; exact hf) (by rw [lsv hls]; exact hp)
    refine ⟨r', hI', hls.tr hls', fun M g x hM hg => ?_, fun M g x hR hg => ?_, (Go.send hI (by omega) (by omega) (by omega) hce (by omega)).tr hg2⟩
    · obtain ⟨g, rfl⟩ : ∃ k, g = k + 1 := ⟨g - 1, by omega⟩
      have hIM : Inv (gR M 4) nc lc := by rw [hM]; exact hI
      have hof := of_o (M := M) (w := 1) hIM hl (by omega) (by omega)
      have hfr := fragOf_o (M := M) (e := e) hIM hl (by omega)
      rw [hM] at hof
      rw [hM, ← hf] at hfr
      have hwr := writer_o (M := M) (f := f) (e := e) (i := i) hIM hl (by rw [hM]; exact hff) (by omega) (by omega)
      rw [hM, hnn] at hwr
      have hse := send_o (M := M) (n := n) (c := c) hIM hn hl (show e < 40 by omega)
      rw [hM, hp] at hse
      rw [m_X6_append_L118_s, show m_X6_of 3 (nI l) 1 M = _ from hof, bind_s, if_neg (nI_ge (by omega) (by omega)), hfr, bind_s, hwr, bind_s, hse, bind_s, nI_1]
      rw [hr (sR 4 (rSend r n (nI (rq l e c p))) M) g x gR_self (by omega), sR_sR]
    · obtain ⟨g, rfl⟩ : ∃ k, g = k + 1 := ⟨g - 1, by omega⟩
      have hC := rc_l hR hI hl
      have h2 : gF M (B + 27 + 5 * l) 2 = nI (vf r l 1) := by rw [hC.2.2.1, hL.1 1 (by omega) (by omega)]
      obtain ⟨N, e1, R1, -, F1, -⟩ := csend2 hB hR hI hn hq
      rw [rqc_rq (by omega) (by omega) (by omega) (by omega)] at e1
      obtain ⟨M', R2, F2, e2⟩ := hcl N g x R1 (by omega)
      refine ⟨M', R2, F1.tr F2, ?_⟩
      have hws := wsn_ok (M := M) (i := i) (e := e) hC hL hff (by omega) (by omega)
      rw [hnn] at hws
      rw [m_X3_write_L36_s, h2, if_neg (nI_ge (by omega) (by omega)), hws, bind_s, e1, bind_s, nI_1]
      exact e2
end SENDS
