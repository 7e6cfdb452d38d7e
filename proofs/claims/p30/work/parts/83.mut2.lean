/-! the frame of a change of the present state, and what every changing call begins and ends with -/
/-- M' is M but for the block of base B, and the ledgers keep their numbers -/
def Fg (B : Nat) (M M' : Mem) : Prop := Fb B M M' ∧ ∀ l, l < 4 → gF M' (B + 27 + 5 * l) 0 = gF M (B + 27 + 5 * l) 0
theorem Fg.rf {B : Nat} {M : Mem} : Fg B M M := ⟨Fb.rf, fun _ _ => rfl⟩
theorem Fg.tr {B : Nat} {M M1 M2 : Mem} (h : Fg B M M1) (k : Fg B M1 M2) : Fg B M M2 := ⟨h.1.tr k.1, fun l hl => (k.2 l hl).trans (h.2 l hl)⟩
theorem Fg.sR {B c : Nat} {M M1 : Mem} {q : Nat → Int32} (h : Fg B M M1) (hc : c / 64 = B / 64) : Fg B M (sR c q M1) := ⟨h.1.sR hc, h.2⟩
theorem Fg.sF {B c k : Nat} {M M1 : Mem} {v : Int32} (h : Fg B M M1) (hc : c / 64 = B / 64) (hk : k ≠ 0 ∨ ∀ l, l < 4 → c ≠ B + 27 + 5 * l) : Fg B M (sF c k v M1) := ⟨h.1.sF hc, fun l hl => by
  rw [← h.2 l hl]
  by_cases hq : B + 27 + 5 * l = c
  · rw [hq]
    exact gF_ne (fun q => by
      rcases hk with hk | hk
      · exact hk q.symm
      · exact hk l hl hq.symm)
  · rw [gF_sF_ne hq]⟩
theorem Fg.n {B n : Nat} {M M' : Mem} (hn : n < 8) (h : Fb B M M') (k : Fc (B + 3 + 3 * n) 2 M M') : Fg B M M' := ⟨h, fun l _ => congrFun (k (B + 27 + 5 * l) (by omega)).1 0⟩
theorem csend2 {B n nc lc : Nat} {r : Nat → Int32} {M : Mem} {v : Int32} (hB : B % 64 = 0) (hR : RC B r M) (hI : Inv r nc lc) (hn : n < nc) (hv : QC r lc v) : ∃ M', m_X3_send B (nI n) (rqc v) M = some M' ∧ RC B (rSend r n v) M' ∧ Inv (rSend r n v) nc lc ∧ Fg B M M' ∧ Fc (B + 3 + 3 * n) 2 M M' := by
  have h8 := hI.1
  have hC := rc_n hR hI hn
  obtain ⟨h0, ⟨w, hw, h1, h2, h3⟩, h5, h6⟩ := id (inv_n hI hn)
  have hcw : cl (r (11 + n)) = w := by rw [h1, cl_nI (by omega)]
  unfold m_X3_send
  rw [node_ok hR hI hn, bind_s]
  unfold rSend
  rw [hcw]
  by_cases hq : r (3 + n) = 1 ∧ w < 100
  · rw [if_pos hq]
    have hc : Fc (B + 3 + 3 * n) 2 M (sF (B + 3 + 3 * n) 3 (nI (w + 1)) (sR (B + 3 + 3 * n + 2) (upd (gR M (B + 3 + 3 * n + 2)) w (rqc v)) M)) := (Fc.rf.sR (by omega)).sF (by omega)
    refine ⟨sF (B + 3 + 3 * n) 3 (nI (w + 1)) (sR (B + 3 + 3 * n + 2) (upd (gR M (B + 3 + 3 * n + 2)) w (rqc v)) M), ?_, ?_, ?_, ?_, hc⟩
    · show Option.bind (m_X1_receive (B + 3 + 3 * n) (rqc v) M) (fun z6 => some z6) = _
      rw [recv_ok hC hq.1 h1 hq.2]
      rfl
    · exact RC.node hR hI hn hc (fun i hi => rRecv_ne (by unfold nIx at hi; omega) (by unfold nIx at hi; omega)) (recv_CN (by omega) hC h1 hq.2)
    · exact hI.node hn (fun i hi => rRecv_ne (by unfold nIx at hi; omega) (by unfold nIx at hi; omega)) (recv_NI (by omega) (inv_n hI hn) hq.1 h1 hq.2 hv hI.2.1)
    · exact Fg.n (by omega) ((Fb.rf.sR (nB (n := n) hB (by omega) _ (by omega) (by omega))).sF (nB (n := n) hB (by omega) _ (by omega) (by omega))) hc
  · rw [if_neg hq]
    refine ⟨M, ?_, hR, hI, Fg.rf, Fc.rf⟩
    show Option.bind (m_X1_receive (B + 3 + 3 * n) (rqc v) M) (fun z6 => some z6) = _
    rw [recv_full hC (by
      rcases h0 with h0 | h0
      · exact Or.inl h0
      · have hw9 : ¬ w < 100 := fun q => hq ⟨h0, q⟩
        refine Or.inr ?_
        rw [h1, show w = 100 by omega])]
    rfl
/-- rejections: cell 2 alone -/
theorem Inv.c2 {r : Nat → Int32} {nc lc : Nat} {v : Int32} (hI : Inv r nc lc) : Inv (upd r 2 v) nc lc := by
  have hne : ∀ i, i ≠ 2 → upd r 2 v i = r i := fun i hi => upd_n hi
  obtain ⟨h8, h4, h0, h1, h2, h3, h5, h6⟩ := hI
  refine ⟨h8, h4, by rw [hne 0 (by omega)]; exact h0, by rw [hne 1 (by omega)]; exact h1, fun k hk => ?_, fun k hk hk8 => ?_, fun k hk => ?_, fun k hk hk4 => ?_⟩
  · refine (h2 k hk).congr (by omega) (Nat.le_refl _) (fun i hi => hne i (by unfold nIx at hi; omega)) (fun k2 hk2 => Nat.le_of_eq ?_)
    show cl (r _) = cl (upd r 2 v _)
    rw [hne _ (by omega)]
  · exact (h3 k hk hk8).congr hk8 (fun i hi => hne i (by unfold nIx at hi; omega))
  · exact (h5 k hk).congr (Nat.le_refl _) (fun i hi => hne i (by unfold lIx at hi; omega))
  · exact (h6 k hk hk4).congr (fun i hi => hne i (by unfold lIx at hi; omega))
theorem RC.c2 {B nc lc : Nat} {r : Nat → Int32} {M : Mem} {v : Int32} (hI : Inv r nc lc) (hR : RC B r M) : RC B (upd r 2 v) (sF B 2 v M) := by
  have h8 := hI.1
  have h4 := hI.2.1
  have hne : ∀ i, i ≠ 2 → upd r 2 v i = r i := fun i hi => upd_n hi
  have hc0 : cl (r 0) = nc := by rw [hI.2.2.1, cl_nI (by omega)]
  have hc1 : cl (r 1) = lc := by rw [hI.2.2.2.1, cl_nI (by omega)]
  have hd : ∀ c, c ≠ B → gF (sF B 2 v M) c = gF M c ∧ gR (sF B 2 v M) c = gR M c := fun c hc => ⟨gF_sF_ne hc, rfl⟩
  refine ⟨by rw [gF_ne (by decide), hne 0 (by omega), hR.1], by rw [gF_ne (by decide), hne 1 (by omega), hR.2.1], by rw [gF_self, upd_s], fun k hk => ?_, fun k hk => ?_⟩
  · rw [hne 0 (by omega), hc0] at hk
    exact (rc_n hR hI hk).congr (by omega) (fun c h1 h2 => hd c (by omega)) (fun i hi => hne i (by unfold nIx at hi; omega))
  · rw [hne 1 (by omega), hc1] at hk
    exact (rc_l hR hI hk).congr (by omega) (fun c h1 h2 => hd c (by omega)) (fun i hi => hne i (by unfold lIx at hi; omega))
