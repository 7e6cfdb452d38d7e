/-! append -/
/-- the row with one entry more -/
def rApp (r : Nat → Int32) (l e p : Nat) : Nat → Int32 := upd (upd (upd r (2131 + 333 * l + (7 + e)) (nI p)) (2131 + 333 * l + (47 + e)) 0) (2131 + 333 * l + 4) (nI (e + 1))
section APP
variable {M : Mem} {B a nc lc l e p : Nat} {r : Nat → Int32}
theorem rApp_o {i : Nat} (h1 : i ≠ 2131 + 333 * l + (7 + e)) (h2 : i ≠ 2131 + 333 * l + (47 + e)) (h3 : i ≠ 2131 + 333 * l + 4) : rApp r l e p i = r i := by
  unfold rApp
  rw [upd_n h3, upd_n h2, upd_n h1]
theorem rApp_4 : rApp r l e p (2131 + 333 * l + 4) = nI (e + 1) := upd_s
theorem rApp_p : rApp r l e p (2131 + 333 * l + (7 + e)) = nI p := by
  unfold rApp
  rw [upd_n (by omega), upd_n (by omega), upd_s]
theorem rApp_a : rApp r l e p (2131 + 333 * l + (47 + e)) = nI 0 := by
  unfold rApp
  rw [upd_n (by omega), upd_s]
  rfl
theorem rApp_v {w : Nat} (h1 : w ≠ 7 + e) (h2 : w ≠ 47 + e) (h3 : w ≠ 4) : vf (rApp r l e p) l w = vf r l w := vf_o (rApp_o (by omega) (by omega) (by omega))
theorem LI.app (hI : LI r nc l) (he : vf r l 4 = e) (h40 : e < 40) (hp : p ≤ 999) : LI (rApp r l e p) nc l := by
  have hv : ∀ w, w ≠ 7 + e → w ≠ 47 + e → w ≠ 4 → vf (rApp r l e p) l w = vf r l w := fun w h1 h2 h3 => rApp_v h1 h2 h3
  have h0 := hv 0 (by omega) (by omega) (by omega)
  have h1 := hv 1 (by omega) (by omega) (by omega)
  have h2 := hv 2 (by omega) (by omega) (by omega)
  have h3 := hv 3 (by omega) (by omega) (by omega)
  have h6 := hv 6 (by omega) (by omega) (by omega)
  have h87 := hv 87 (by omega) (by omega) (by omega)
  have h4 : vf (rApp r l e p) l 4 = e + 1 := by
    show cl (rApp r l e p _) = _
    rw [rApp_4, cl_nI (by omega)]
  have ha : vf (rApp r l e p) l (47 + e) = 0 := by
    show cl (rApp r l e p _) = _
    rw [rApp_a, cl_nI (by omega)]
  have hpp : vf (rApp r l e p) l (7 + e) = p := by
    show cl (rApp r l e p _) = _
    rw [rApp_p, cl_nI (by omega)]
  obtain ⟨a0, a1, a2, a3, a4, a5, a6, a7, a8, a9, b0, b1, b2, b3, b4, k, hk, b5⟩ := hI
  have va : ∀ f, vf (rApp r l e p) l (87 + f) = vf r l (87 + f) := fun f => hv (87 + f) (by omega) (by omega) (by omega)
  have vm : ∀ f q, mbf (rApp r l e p) l f q = mbf r l f q := fun f q => hv (128 + 5 * f + q) (by omega) (by omega) (by omega)
  unfold LI
  rw [h0, h1, h2, h3, h4, h6, h87, va]
  refine ⟨fun w hw hw5 => ?_, a1, a2, a3, a4, by omega, a6, a7, fun f hf => ?_, by omega, fun f p hf hp => ?_, fun f p q hf hp hq => ?_, fun k hk => ?_, fun k hk => ?_, fun h0 k hk => ?_, k, hk, ?_⟩
  · by_cases q1 : w = 7 + e
    · rw [q1, rApp_p, hpp]
    · by_cases q2 : w = 47 + e
      · rw [q2, rApp_a, ha]
      · by_cases q3 : w = 4
        · rw [q3, rApp_4, h4]
        · rw [hv w q1 q2 q3, rApp_o (by omega) (by omega) (by omega)]
          exact a0 w hw hw5
  · rw [va f, va (f + 1)]; exact a8 f hf
  · rw [vm f p]; exact b0 f p hf hp
  · rw [vm f p, vm f q]; exact b1 f p q hf hp hq
  · by_cases hq : k = e
    · rw [hq, ha]; omega
    · rw [hv (47 + k) (by omega) (by omega) (by omega)]; exact b2 k (by omega)
  · by_cases hq : k = e
    · rw [hq, hpp]; omega
    · rw [hv (7 + k) (by omega) (by omega) (by omega)]; exact b3 k (by omega)
  · rw [hv (47 + k) (by omega) (by omega) (by omega)]; exact b4 h0 k hk
  · rw [rApp_o (by omega) (by omega) (by omega)]; exact b5
theorem CL.app (hC : CL M a r l) (hI : LI r nc l) (he : vf r l 4 = e) (h40 : e < 40) : CL (sF a 5 (nI (e + 1)) (sR (a + 2) (upd (gR M (a + 2)) e 0) (sR (a + 1) (upd (gR M (a + 1)) e (nI p)) M))) a (rApp r l e p) l := by
  have h41 := hI.2.2.2.2.2.2.1.2
  have hE := hI.2.1
  have hv : ∀ w, w ≠ 7 + e → w ≠ 47 + e → w ≠ 4 → vf (rApp r l e p) l w = vf r l w := fun w h1 h2 h3 => rApp_v h1 h2 h3
  have h4' : vf (rApp r l e p) l 4 = e + 1 := by
    show cl (rApp r l e p _) = _
    rw [rApp_4, cl_nI (by omega)]
  obtain ⟨h0, h1, h2, h3, h4, h5, h6, h7, h8, h9, h10, h11⟩ := hC
  have hs : ∀ k, k ≠ 5 → gF (sF a 5 (nI (e + 1)) (sR (a + 2) (upd (gR M (a + 2)) e 0) (sR (a + 1) (upd (gR M (a + 1)) e (nI p)) M))) a k = gF M a k := fun k hk => gF_ne hk
  refine ⟨by rw [hs 0 (by omega), h0], by rw [hs 1 (by omega), h1, rApp_o (by omega) (by omega) (by omega)], by rw [hs 2 (by omega), h2, rApp_o (by omega) (by omega) (by omega)], by rw [hs 3 (by omega), h3, rApp_o (by omega) (by omega) (by omega)], by rw [hs 4 (by omega), h4, rApp_o (by omega) (by omega) (by omega)], by rw [gF_self, rApp_4], by rw [hs 6 (by omega), h6, rApp_o (by omega) (by omega) (by omega)], by rw [hs 7 (by omega), h7, rApp_o (by omega) (by omega) (by omega)], fun k hk hk40 => ?_, fun k hk hk40 => ?_, fun f hf hf41 => ?_, fun f q hf hq hf41 hq5 => ?_⟩
  · rw [gR_sF, gR_ne (by omega), gR_self]
    by_cases hq : k = e
    · rw [hq, upd_s, rApp_p]
    · rw [upd_n hq, rApp_o (by omega) (by omega) (by omega)]
      exact h8 k (by omega) hk40
  · rw [gR_sF, gR_self]
    by_cases hq : k = e
    · rw [hq, upd_s, rApp_a]
      rfl
    · rw [upd_n hq, rApp_o (by omega) (by omega) (by omega)]
      exact h9 k (by omega) hk40
  · rw [hv 6 (by omega) (by omega) (by omega)] at hf
    rw [gR_sF, gR_ne (by omega), gR_ne (by omega), h10 f hf hf41, rApp_o (by omega) (by omega) (by omega)]
  · rw [hv 6 (by omega) (by omega) (by omega)] at hf
    rw [hv 0 (by omega) (by omega) (by omega)] at hq
    rw [gR_sF, gR_ne (by omega), gR_ne (by omega), h11 f q hf hq hf41 hq5, rApp_o (by omega) (by omega) (by omega)]
theorem app_I (hI : Inv r nc lc) (hl : l < lc) (he : vf r l 4 = e) (h40 : e < 40) (hp : p ≤ 999) : Inv (rApp r l e p) nc lc := by
  refine hI.led hl (fun i hi => rApp_o (by unfold lIx at hi; omega) (by unfold lIx at hi; omega) (by unfold lIx at hi; omega)) ?_ ((inv_l hI hl).app he h40 hp)
  show _ ≤ cl (rApp r l e p _)
  rw [rApp_4, cl_nI (by omega)]
  omega
theorem rCf_le {r : Nat → Int32} {l : Nat} : rCf r l ≤ vf r l 4 := by
  have := (lead_le (q := fun e => decide (vf r l 2 ≤ pc (vf r l (47 + e)))) (vf r l 4) 0).2
  unfold rCf
  omega
theorem addE_ok (hC : CL M a r l) (hI : LI r nc l) (he : vf r l 4 = e) (h40 : e < 40) : m_X0_addEntry a (nI p) M = some (nI e, sF a 5 (nI (e + 1)) (sR (a + 2) (upd (gR M (a + 2)) e 0) (sR (a + 1) (upd (gR M (a + 1)) e (nI p)) M))) := by
  have h5 : gF M a 5 = nI e := by rw [hC.2.2.2.2.2.1, hI.1 4 (by omega) (by omega), he]
  have hm : aI (a + 2) (nI e) 0 (aI (a + 1) (nI e) (nI p) M) = sR (a + 2) (upd (gR M (a + 2)) e 0) (sR (a + 1) (upd (gR M (a + 1)) e (nI p)) M) := by
    rw [aI_nI (q := a + 1) (by omega), aI_nI (q := a + 2) (by omega), gR_ne (by omega)]
  unfold m_X0_addEntry
  rw [h5, if_neg (nI_pos (by omega)), show (40 : Int32) = nI 40 from rfl, if_neg (nI_ge (by omega) (by omega)), if_neg (nI_ge (by omega) (by omega)), ck_ix (by omega) (by omega), ck_ix (by omega) (by omega), hm, gF_sR, gF_sR, h5, nI_1]
/-- an entry more -/
theorem Y.app (hI : Inv r nc lc) (hl : l < lc) (he : vf r l 4 = e) (h40 : e < 40) (h0 : vf r l 3 = 0) (hY : Y r lc) : Y (rApp r l e p) lc ∧ ∀ k, k < lc → fl r k ≤ fl (rApp r l e p) k := by
  have h4 := hI.2.1
  have hL := inv_l hI hl
  have hF := hL.2.2.2.2.2.2.1
  have hE := hL.2.1
  have hst := hL.2.2.2.2.2.2.2.2.2.1
  have hne : ∀ i, i ≠ 2131 + 333 * l + (7 + e) → i ≠ 2131 + 333 * l + (47 + e) → i ≠ 2131 + 333 * l + 4 → rApp r l e p i = r i := fun i h1 h2 h3 => rApp_o h1 h2 h3
  have hv : ∀ w, w ≠ 7 + e → w ≠ 47 + e → w ≠ 4 → vf (rApp r l e p) l w = vf r l w := fun w h1 h2 h3 => rApp_v h1 h2 h3
  have v4 : vf (rApp r l e p) l 4 = e + 1 := by
    show cl (rApp r l e p _) = _
    rw [rApp_4, cl_nI (by omega)]
  have va : vf (rApp r l e p) l (47 + e) = 0 := by
    show cl (rApp r l e p _) = _
    rw [rApp_a, cl_nI (by omega)]
  have v3 := hv 3 (by omega) (by omega) (by omega)
  have v6 := hv 6 (by omega) (by omega) (by omega)
  have v2 := hv 2 (by omega) (by omega) (by omega)
  have v8 : ∀ f, vf (rApp r l e p) l (87 + f) = vf r l (87 + f) := fun f => hv (87 + f) (by omega) (by omega) (by omega)
  have vk : ∀ k, k < e → vf (rApp r l e p) l (47 + k) = vf r l (47 + k) := fun k hk => hv (47 + k) (by omega) (by omega) (by omega)
  have hfr : ∀ k, frg (rApp r l e p) l k = frg r l k := fun k => by
    show rFr _ k (vf (rApp r l e p) l 6) = rFr _ k (vf r l 6)
    rw [v6]
    exact rFr_congr _ (fun f hf => v8 f)
  have hws : ∀ f k, f < vf r l 6 → wsM (rApp r l e p) l f k = wsM r l f k := fun f k hf => by
    show orB (fun i => mbf (rApp r l e p) l f ((k + i) % vf (rApp r l e p) l 0)) (vf (rApp r l e p) l 1) = orB (fun i => mbf r l f ((k + i) % vf r l 0)) (vf r l 1)
    rw [hv 0 (by omega) (by omega) (by omega), hv 1 (by omega) (by omega) (by omega)]
    refine orB_congr (fun i _ => ?_)
    have := Nat.mod_lt (k + i) (show 0 < vf r l 0 by omega)
    exact hv _ (by omega) (by omega) (by omega)
  have hcf : rCf r l ≤ rCf (rApp r l e p) l := by
    have h1 : rCf r l ≤ e := by rw [← he]; exact rCf_le
    rcases lead_ge (q := fun k => decide (vf (rApp r l e p) l 2 ≤ pc (vf (rApp r l e p) l (47 + k)))) (vf (rApp r l e p) l 4) 0 (rCf r l) (by omega) (fun k _ hk => by
      rw [v2, vk k (by omega)]
      exact lead_q (q := fun e => decide (vf r l 2 ≤ pc (vf r l (47 + e)))) (vf r l 4) 0 k (Nat.zero_le _) hk) with h | h
    · exact h
    · omega
  have key : ∀ k, k < lc → YL (rApp r l e p) k ∧ fl r k ≤ fl (rApp r l e p) k := fun k hk => by
    by_cases hkl : k = l
    · subst hkl
      refine ⟨⟨fun hp => ?_, fun hp => ?_⟩, ?_⟩
      · rw [v3] at hp
        obtain ⟨hK, hC⟩ := (hY.2.2 k hk).1 hp
        refine ⟨fun e' n he' hn hb => ?_, fun e' he' => ?_⟩
        · rw [v4] at he'
          by_cases hq : e' = e
          · rw [hq, va, Nat.zero_testBit] at hb; cases hb
          · rw [vk e' (by omega)] at hb
            rw [hne _ (by omega) (by omega) (by omega), hfr, hws _ _ (frg_lt hL)]
            exact hK e' n (by omega) hn hb
        · rw [v6, v8] at he'
          rw [v2, vk e' (by omega)]
          exact hC e' he'
      · rw [v3] at hp
        omega
      · unfold fl
        rw [v3, hne _ (by omega) (by omega) (by omega)]
        split
        · exact Nat.le_refl _
        · exact hcf
    · exact YL.congr (inv_l hI hk) (fun w _ => hne _ (by omega) (by omega) (by omega)) (fun n e' _ _ q => by rw [hne _ (by omega) (by omega) (by omega)]; exact q) (hY.2.2 k hk)
  refine ⟨⟨fun n l' e' hn hl' he' hs => ?_, fun n i hn hi h100 => ?_, fun k hk => (key k hk).1⟩, fun k hk => (key k hk).2⟩
  · rw [hne _ (by omega) (by omega) (by omega)] at hs ⊢
    obtain ⟨a, b⟩ := hY.1 n l' e' hn hl' he' hs
    refine ⟨?_, b⟩
    by_cases hq : l' = l
    · subst hq; omega
    · rw [vfo (hne _ (by omega) (by omega) (by omega))]; exact a
  · rw [hne _ (by omega) (by omega) (by omega)] at hi
    rw [hne _ (by omega) (by omega) (by omega)]
    exact hY.2.1 n i hn hi h100
/-- both: the class's write, and the reference's way from its second cell on -/
theorem write_both (hI : Inv r nc lc) (hl : l < lc) (he : vf r l 4 = e) (h40 : e < 40) (hp : p ≤ 999) (h0 : vf r l 3 = 0) : ∃ r', Inv r' nc lc ∧
    (∀ M x, gR M 4 = rApp r l e p → m_X6_append_L118 3 (nI l) x fuel (nI e) (nI (rCf r l) - 1) (nI 0) M = some (nI e, sR 4 r' M)) ∧
    (∀ M, RC 64 r M → ∃ M', RC 64 r' M' ∧ Fg 64 M M' ∧ m_X3_write 64 (64 + 27 + 5 * l) (nI p) M = some (nI e, M')) ∧ Go lc 0 r r' := by
  have h8 := hI.1
  have h4 := hI.2.1
  have hL := inv_l hI hl
  have hW := hL.2.2.1
  have hE := hL.2.1
  have hc := rCf_le (r := r) (l := l)
  have I1 := app_I hI hl he h40 hp
  have h4' : vf (rApp r l e p) l 4 = e + 1 := by
    show cl (rApp r l e p _) = _
    rw [rApp_4, cl_nI (by omega)]
  have hpp : vf (rApp r l e p) l (7 + e) = p := by
    show cl (rApp r l e p _) = _
    rw [rApp_p, cl_nI (by omega)]
  have hv1 : vf (rApp r l e p) l 1 = vf r l 1 := rApp_v (by omega) (by omega) (by omega)
  obtain ⟨r', hI', -, hr, hcl, hg⟩ := sends_both (B := 64) (l := l) (e := e) (c := rCf r l) (p := p) (f := frg (rApp r l e p) l e) (by omega) (by omega) (by omega) (vf (rApp r l e p) l 1) 0 (rApp r l e p) I1 hl (by omega) (by omega) rfl hpp
  have hga : Go lc 0 r (rApp r l e p) := ⟨fun hY => Y.app hI hl he h40 h0 hY, fun k hk => ⟨k, (rApp_o (by omega) (by omega) (by omega)).trans hk, by omega⟩, Ke.of h4 (fun m hm => rApp_o (by omega) (by omega) (by omega)) (fun k hk => rApp_o (by omega) (by omega) (by omega))⟩
  refine ⟨r', hI', fun M x hM => hr M fuel x hM (by unfold fuel; omega), fun M hR => ?_, hga.tr hg⟩
  have hC := rc_l hR hI hl
  have hC1 := hC.app (p := p) hL he h40
  have R1 : RC 64 (rApp r l e p) (sF (64 + 27 + 5 * l) 5 (nI (e + 1)) (sR (64 + 27 + 5 * l + 2) (upd (gR M (64 + 27 + 5 * l + 2)) e 0) (sR (64 + 27 + 5 * l + 1) (upd (gR M (64 + 27 + 5 * l + 1)) e (nI p)) M))) := RC.led hR hI hl (((Fc.rf.sR (by omega)).sR (by omega)).sF (by omega)) (fun i hi => rApp_o (by unfold lIx at hi; omega) (by unfold lIx at hi; omega) (by unfold lIx at hi; omega)) hC1
  have F1 : Fg 64 M (sF (64 + 27 + 5 * l) 5 (nI (e + 1)) (sR (64 + 27 + 5 * l + 2) (upd (gR M (64 + 27 + 5 * l + 2)) e 0) (sR (64 + 27 + 5 * l + 1) (upd (gR M (64 + 27 + 5 * l + 1)) e (nI p)) M))) := ((Fg.rf.sR (by omega)).sR (by omega)).sF (by omega) (Or.inl (by decide))
  obtain ⟨M', R2, F2, e2⟩ := hcl _ fuel (nI p) R1 (by unfold fuel; omega)
  refine ⟨M', R2, F1.tr F2, ?_⟩
  unfold m_X3_write
  rw [cconf_ok hC hL, bind_s, addE_ok hC hL he h40, bind_s]
  show Option.bind (m_X0_fragmentOf (64 + 27 + 5 * l) (nI e) (sF (64 + 27 + 5 * l) 5 (nI (e + 1)) (sR (64 + 27 + 5 * l + 2) (upd (gR M (64 + 27 + 5 * l + 2)) e 0) (sR (64 + 27 + 5 * l + 1) (upd (gR M (64 + 27 + 5 * l + 1)) e (nI p)) M)))) (fun z5 => m_X3_write_L36 64 (64 + 27 + 5 * l) (nI p) fuel (nI e) (m_X2_of (gF (sF (64 + 27 + 5 * l) 5 (nI (e + 1)) (sR (64 + 27 + 5 * l + 2) (upd (gR M (64 + 27 + 5 * l + 2)) e 0) (sR (64 + 27 + 5 * l + 1) (upd (gR M (64 + 27 + 5 * l + 1)) e (nI p)) M))) (64 + 27 + 5 * l) 0) (nI e) (nI p) (nI (rCf r l) - 1)) z5 0 _) = _
  rw [cfrag_ok hC1 (inv_l I1 hl) (by omega), bind_s, hC1.1, of_pz (by omega) (by omega) (by omega) (by omega)]
  exact e2
end APP
theorem le_999 {p : Nat} (h : p < 1000) : nI p ≤ 999 := nI_le (b := 999) (by omega) (by omega)
theorem gt_999 {y : Int32} (h : nI 1000 ≤ y) : ¬ y ≤ 999 := fun q => absurd (Int32.le_trans h q) (by decide)
