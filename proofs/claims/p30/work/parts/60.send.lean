/-! send: the class's parcel, the row's request -/
abbrev rq (l e c p : Nat) : Nat := l + 4 * e + 256 * c + 16384 * p
theorem rqc_rq {l e c p : Nat} (hl : l < 4) (he : e < 64) (hc : c < 64) (hp : p < 1024) : rqc (nI (rq l e c p)) = nI (pz l e c p) := by
  unfold rqc
  rw [cl_nI (by unfold rq; omega)]
  exact congrArg nI (by unfold pz rq; omega)
def rSend (r : Nat → Int32) (n : Nat) (v : Int32) : Nat → Int32 := if r (3 + n) = 1 ∧ cl (r (11 + n)) < 100 then rRecv r n (cl (r (11 + n))) v else r
theorem rSend_ne {r : Nat → Int32} {n i : Nat} {v : Int32} (h : ¬ nIx n i) : rSend r n v i = r i := by
  unfold rSend
  split
  · exact rRecv_ne (by unfold nIx at h; omega) (by unfold nIx at h; omega)
  · rfl
theorem nB {B n : Nat} (hB : B % 64 = 0) (hn : n < 8) : ∀ c, B + 3 + 3 * n ≤ c → c ≤ B + 3 + 3 * n + 2 → c / 64 = B / 64 := fun c h1 h2 => by omega
theorem lB {B l : Nat} (hB : B % 64 = 0) (hl : l < 4) : ∀ c, B + 27 + 5 * l ≤ c → c ≤ B + 27 + 5 * l + 4 → c / 64 = B / 64 := fun c h1 h2 => by omega
theorem csend_ok {B n nc lc : Nat} {r : Nat → Int32} {M : Mem} {v : Int32} (hB : B % 64 = 0) (hR : RC B r M) (hI : Inv r nc lc) (hn : n < nc) (hv : QC r lc v) : ∃ M', m_X3_send B (nI n) (rqc v) M = some M' ∧ RC B (rSend r n v) M' ∧ Inv (rSend r n v) nc lc ∧ Fb B M M' := by
  have h8 := hI.1
  have hC := rc_n hR hI hn
  obtain ⟨h0, ⟨w, hw, h1, h2, h3⟩, h5, h6⟩ := id (inv_n hI hn)
  have hcw : cl (r (11 + n)) = w := by rw [h1, cl_nI (by omega)]
  unfold m_X3_send
  rw [node_ok hR hI hn, bind_s]
  unfold rSend
  rw [hcw]
  by_cases hq : r (3 + n) = 1 ∧ w < 100
  · rw [if_pos hq]
    refine ⟨sF (B + 3 + 3 * n) 3 (nI (w + 1)) (sR (B + 3 + 3 * n + 2) (upd (gR M (B + 3 + 3 * n + 2)) w (rqc v)) M), ?_, ?_, ?_, ?_⟩
    · show Option.bind (m_X1_receive (B + 3 + 3 * n) (rqc v) M) (fun z6 => some z6) = _
      rw [recv_ok hC hq.1 h1 hq.2]
      rfl
    · exact RC.node hR hI hn ((Fc.rf.sR (by omega)).sF (by omega)) (fun i hi => rRecv_ne (by unfold nIx at hi; omega) (by unfold nIx at hi; omega)) (recv_CN (by omega) hC h1 hq.2)
    · exact hI.node hn (fun i hi => rRecv_ne (by unfold nIx at hi; omega) (by unfold nIx at hi; omega)) (recv_NI (by omega) (inv_n hI hn) hq.1 h1 hq.2 hv hI.2.1)
    · exact (Fb.rf.sR (nB (n := n) hB (by omega) _ (by omega) (by omega))).sF (nB (n := n) hB (by omega) _ (by omega) (by omega))
  · rw [if_neg hq]
    refine ⟨M, ?_, hR, hI, Fb.rf⟩
    show Option.bind (m_X1_receive (B + 3 + 3 * n) (rqc v) M) (fun z6 => some z6) = _
    rw [recv_full hC (by
      rcases h0 with h0 | h0
      · exact Or.inl h0
      · have hw9 : ¬ w < 100 := fun q => hq ⟨h0, q⟩
        refine Or.inr ?_
        rw [h1, show w = 100 by omega])]
    rfl
theorem send_ok {n l e c : Nat} {M : Mem} (hn : n < 8) (hl : l < 4) (he : e < 40) (hw : ∃ w, w ≤ 100 ∧ gR M 4 (11 + n) = nI w) (hu : gR M 4 (3 + n) = 0 ∨ gR M 4 (3 + n) = 1) (hp : gR M 4 (2131 + 333 * l + (7 + e)) = nI (vf (gR M 4) l (7 + e))) : m_X6_send 3 (nI n) (nI l) (nI e) (nI c - 1) M = some (sR 4 (rSend (gR M 4) n (nI (rq l e c (vf (gR M 4) l (7 + e))))) M) := by
  obtain ⟨w, hw, h1⟩ := hw
  unfold m_X6_send rSend
  rw [isUp_ok (by omega), bind_s, h1, cl_nI (by omega)]
  rcases hu with hu | hu
  · rw [hu, if_neg (show ¬ (0 : Int32) = 1 by decide), if_pos (show (0 : Int32) = 0 from rfl), if_neg (fun q => absurd q.1 (by decide)), sR_id]
  · rw [hu, if_pos (show (1 : Int32) = 1 from rfl), if_neg (show ¬ (1 : Int32) = 0 by decide), Ln 11, nI_add, ck_ix (by omega) (by omega), cl_nI (by omega), h1]
    by_cases hq : w < 100
    · rw [if_neg (show ¬ (100 : Int32) ≤ nI w from nI_ge (b := 100) (by omega) (by omega)), Ln 7, nI_add, of_ok (by omega), bind_s, ck_ix (by omega) (by omega), Ln 19, show (100 : Int32) = nI 100 from rfl, nI_mul, nI_add, nI_add, ck_ix (by omega) (by omega), ck_ix (by omega) (by omega), ck_ix (by omega) (by omega), Int32.sub_add_cancel, hp, Ln 4, Ln 256, Ln 16384, nI_mul, nI_mul, nI_mul, nI_add, nI_add, nI_add, aI_nI (by omega), aI_nI (by omega), gR_self, upd_n (by omega), h1, nI_1, sR_sR, if_pos ⟨rfl, hq⟩]
      rfl
    · rw [if_pos (show (100 : Int32) ≤ nI w from nI_le (a := 100) (by omega) (by omega)), if_neg (fun q => hq q.2), sR_id]
