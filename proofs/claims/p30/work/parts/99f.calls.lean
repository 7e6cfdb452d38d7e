/-! the store between two calls: the row r that its memory shows, n saved states, the next one's place nx -/
def Tp (G : Nat → Bool) (M : Mem) (r : Nat → Int32) (nc lc n nx : Nat) : Prop := Inv r nc lc ∧ RC 64 r M ∧ Num G M ∧ n ≤ 4 ∧ nx < 4 ∧ gF M 1 0 = nI n ∧ gF M 1 1 = nI nx
/-- the law's three rows are the same -/
def R3 (M M' : Mem) : Prop := gR M' 3 = gR M 3 ∧ gR M' 4 = gR M 4 ∧ gR M' 5 = gR M 5
/-- the row r is saved at nx -/
def Sv (G : Nat → Bool) (M : Mem) (r : Nat → Int32) (nx : Nat) : Prop := G nx = true ∧ RC (128 + 64 * nx) r M
/-- how a changing call ends -/
def Out (G : Nat → Bool) (M : Mem) (r r' : Nat → Int32) (nc lc n nx : Nat) (G1 : Nat → Bool) (M1 : Mem) : Prop := Tp G1 M1 r' nc lc (if n = 4 then 4 else n + 1) ((nx + 1) % 4) ∧ Sv G1 M1 r nx ∧ R3 M M1 ∧ G1 7 = G 7
section CALLS3
variable {G : Nat → Bool} {M : Mem} {r : Nat → Int32} {nc lc n nx : Nat}
theorem begin3 (h : Tp G M r nc lc n nx) : ∃ G1 M1, m_X4_push 1 64 G M = some (G1, M1) ∧ RC 64 r M1 ∧ Nm 64 M1 ∧ ∀ Mc r' nc' lc', Fg 64 M1 Mc → RC 64 r' Mc → Inv r' nc' lc' → Out G M r r' nc' lc' n nx G1 Mc := by
  obtain ⟨hI, hR, hN, hn, hx, h0, h1⟩ := h
  obtain ⟨G1, M1, e1, hG, a1, a2, a3, a4, a5, -⟩ := push_ok hn hx h0 h1 hI hR hN
  have hb : ∀ c, c / 64 = 1 → gF M1 c = gF M c ∧ gR M1 c = gR M c := fun c hc => a5 c (by omega) (by omega)
  have hm1 : Nm 64 M1 := fun l hl => by rw [(hb (64 + 27 + 5 * l) (by omega)).1]; exact (hN l hl).1
  refine ⟨G1, M1, e1, RC.ext hI (fun _ _ => rfl) (fun c h1 h2 => hb c (by omega)) hR, hm1, fun Mc r' nc' lc' hf hRc hIc => ?_⟩
  have hfar : ∀ c, c / 64 ≠ 1 → gF Mc c = gF M1 c ∧ gR Mc c = gR M1 c := fun c hc => hf.1.1 c (by omega)
  refine ⟨⟨hIc, hRc, fun l hl => ⟨?_, fun i hi hGi => ?_⟩, by split <;> omega, by omega, ?_, ?_⟩, ⟨(hG nx).mpr (Or.inr rfl), RC.ext hI (fun _ _ => rfl) (fun c h1 h2 => hfar c (by omega)) a1⟩, ⟨?_, ?_, ?_⟩, ?_⟩
  · rw [hf.2 l hl]; exact hm1 l hl
  · rw [(hfar _ (by omega)).1]
    by_cases hix : i = nx
    · rw [hix]; exact a2 l hl
    · rw [(a5 _ (by omega) (by omega)).1]
      exact (hN l hl).2 i hi (((hG i).mp hGi).resolve_right hix)
  · rw [(hfar 1 (by omega)).1]; exact a3
  · rw [(hfar 1 (by omega)).1]; exact a4
  · rw [(hfar 3 (by omega)).2, (a5 3 (by omega) (by omega)).2]
  · rw [(hfar 4 (by omega)).2, (a5 4 (by omega) (by omega)).2]
  · rw [(hfar 5 (by omega)).2, (a5 5 (by omega) (by omega)).2]
  · have := hG 7
    cases h7 : G 7 with
    | true => exact this.mpr (Or.inl h7)
    | false =>
      refine Bool.eq_false_iff.mpr fun q => ?_
      rcases this.mp q with q | q
      · rw [h7] at q; cases q
      · omega
theorem undo3 {r' : Nat → Int32} {nc' lc' n' nx' lat : Nat} (h : Tp G M r' nc' lc' n' nx') (hs : Sv G M r lat) (hlat : lat < 4) (hx : (nx' + 3) % 4 = lat) (hn1 : 1 ≤ n') (hI : Inv r nc lc) : ∃ M', m_X5_undo 0 G M = some (nI (n' - 1), M') ∧ Tp G M' r nc lc (n' - 1) lat ∧ R3 M M' := by
  obtain ⟨hI', hR', hN, hn, hx4, h0, h1⟩ := h
  obtain ⟨N, e1, c1, c2, c3⟩ := take_ok (a := 64) (b := 128 + 64 * lat) hI (by omega) (by omega) (by omega) hs.2 (fun l hl => (hN l hl).1)
  have hrem : nI nx' + 4 - 1 - (nI nx' + 4 - 1) / 4 * 4 = nI lat := by
    rw [show nI nx' + 4 - 1 = nI (nx' + 3) from by rw [show (4 : Int32) = nI 4 from rfl, nI_add, nI_sub1 (by omega)]; rfl]
    rw [← hx]
    exact nI_rem (b := 4) (by omega) (by omega)
  have g1 : gF N 1 = gF M 1 := (c3.1 1 (by omega)).1
  have hpop : m_X4_popInto 1 64 G M = some (sF 1 0 (nI (n' - 1)) (sF 1 1 (nI lat) N)) := by
    unfold m_X4_popInto
    rw [h0, if_neg (show ¬ nI n' < 1 from nI_nlt (b := 1) (by omega) (by omega)), h1, hrem, if_neg (nI_pos (by omega)), if_pos (show nI lat < 4 from nI_lt (b := 4) hlat (by omega)), ck_ix hlat (by omega), cl_nI (by omega), show rg G lat = some (128 + 64 * lat) from if_pos hs.1, on_sm, e1, bind_s]
    unfold m_X4_popInto_b49
    rw [gF_ne (by decide), g1, h0, nI_sub1 (by omega)]
  have hfar : ∀ c, c ≠ 1 → gF (sF 1 0 (nI (n' - 1)) (sF 1 1 (nI lat) N)) c = gF N c := fun c hc => (gF_sF_ne hc).trans (gF_sF_ne hc)
  refine ⟨_, ?_, ⟨hI, RC.ext hI (fun _ _ => rfl) (fun c h1 h2 => ⟨hfar c (by omega), rfl⟩) c1, fun l hl => ⟨?_, fun i hi hG => ?_⟩, by omega, hlat, gF_self, ?_⟩, ⟨?_, ?_, ?_⟩⟩
  · unfold m_X5_undo
    rw [h0, if_pos (show (1 : Int32) ≤ nI n' from nI_le (a := 1) (by omega) (by omega)), hpop, bind_s, gF_self]
  · rw [hfar _ (by omega)]; exact c2 l hl
  · rw [hfar _ (by omega), (c3.1 _ (by omega)).1]; exact (hN l hl).2 i hi hG
  · rw [gF_ne (by decide), gF_self]
  · exact (c3.1 3 (by omega)).2
  · exact (c3.1 4 (by omega)).2
  · exact (c3.1 5 (by omega)).2
theorem exN (hR : RC 64 r M) (hI : Inv r nc lc) {k : Nat} (hk : k < nc) : m_X5_existingNode 0 (nI k) M = some (67 + 3 * k) := by
  unfold m_X5_existingNode
  rw [node_ok hR hI hk, bind_s]
  rfl
theorem exL (hR : RC 64 r M) (hI : Inv r nc lc) {k : Nat} (hk : k < lc) : m_X5_existingLedger 0 (nI k) M = some (91 + 5 * k) := by
  unfold m_X5_existingLedger
  rw [ledger_ok hR hI hk, bind_s]
  rfl
/-- addNode -/
theorem w_addNode (h : Tp G M r nc lc n nx) (h8 : nc < 8) : ∃ G1 M1, m_X5_addNode 0 G M = some (nI nc, G1, M1) ∧ Out G M r (rAdd r nc) (nc + 1) lc n nx G1 M1 := by
  obtain ⟨G1, M1, e1, hR1, hm1, hk⟩ := begin3 h
  obtain ⟨hI, hR, -⟩ := h
  obtain ⟨Mc, ec, hRc, hf, hfn⟩ := begN_ok (B := 64) (by omega) h8 hI hR1
  refine ⟨G1, Mc, ?_, hk Mc _ _ _ ⟨hf, fun l _ => congrFun (hfn l) 0⟩ hRc (add_Inv h8 hI)⟩
  unfold m_X5_addNode
  rw [rc_nc hR hI, if_pos (show nI nc < 8 from nI_lt (b := 8) h8 (by omega)), e1, bind_s, ec, bind_s]
/-- crash -/
theorem w_crash (h : Tp G M r nc lc n nx) {k : Nat} (hk : k < nc) (hu : r (3 + k) = 1) : ∃ v G1 M1, m_X5_crash 0 (nI k) G M = some (v, G1, M1) ∧ Out G M r (rCrash r k) nc lc n nx G1 M1 := by
  obtain ⟨G1, M1, e1, hR1, hm1, hkk⟩ := begin3 h
  obtain ⟨hI, hR, -⟩ := h
  have h8 := hI.1
  have hC1 := rc_n hR1 hI hk
  refine ⟨gF M1 (67 + 3 * k) 3, G1, sF (67 + 3 * k) 3 0 (sF (67 + 3 * k) 0 0 M1), ?_, hkk _ _ nc lc ((Fg.rf.sF (by omega) (Or.inr (fun l hl => by omega))).sF (by omega) (Or.inl (by decide))) ?_ ?_⟩
  · unfold m_X5_crash
    rw [exN hR hI hk, bind_s, show gF M (67 + 3 * k) 0 = 1 from (rc_n hR hI hk).1.trans hu, if_neg (show ¬ (1 : Int32) = 0 by decide), e1, bind_s]
  · exact RC.node hR1 hI hk ((Fc.rf.sF (by omega)).sF (by omega)) (fun i hi => by unfold nIx at hi; exact rCrash_ne (by omega) (by omega) (by omega)) (crash_CN (by omega) hC1)
  · exact hI.node hk (fun i hi => by unfold nIx at hi; exact rCrash_ne (by omega) (by omega) (by omega)) (crash_NI (by omega) (inv_n hI hk))
/-- restart -/
theorem w_restart (h : Tp G M r nc lc n nx) {k : Nat} (hk : k < nc) (hu : r (3 + k) = 0) : ∃ v G1 M1, m_X5_restart 0 (nI k) G M = some (v, G1, M1) ∧ Out G M r (upd r (3 + k) 1) nc lc n nx G1 M1 := by
  obtain ⟨G1, M1, e1, hR1, hm1, hkk⟩ := begin3 h
  obtain ⟨hI, hR, -⟩ := h
  have h8 := hI.1
  have hC1 := rc_n hR1 hI hk
  have hne : ∀ i, i ≠ 3 + k → upd r (3 + k) 1 i = r i := fun i hi => upd_n hi
  refine ⟨gF (sF (67 + 3 * k) 0 1 M1) (67 + 3 * k) 2, G1, sF (67 + 3 * k) 0 1 M1, ?_, hkk _ _ nc lc (Fg.rf.sF (by omega) (Or.inr (fun l hl => by omega))) ?_ ?_⟩
  · unfold m_X5_restart
    rw [exN hR hI hk, bind_s, show gF M (67 + 3 * k) 0 = 0 from (rc_n hR hI hk).1.trans hu, if_pos rfl, e1, bind_s]
  · exact RC.node hR1 hI hk (Fc.rf.sF (by omega)) (fun i hi => hne i (by unfold nIx at hi; omega)) (up_CN (by omega) hC1)
  · exact hI.node hk (fun i hi => hne i (by unfold nIx at hi; omega)) (up_NI (by omega) hI.2.1 (inv_n hI hk))
/-- deliver -/
theorem w_deliver (h : Tp G M r nc lc n nx) {k : Nat} (hk : k < nc) (hu : r (3 + k) = 1) : ∃ v G1 M1 r', m_X5_deliver 0 (nI k) G M = some (v, G1, M1) ∧ Out G M r r' nc lc n nx G1 M1 ∧ Go lc 1 r r' := by
  obtain ⟨G1, M1, e1, hR1, hm1, hkk⟩ := begin3 h
  obtain ⟨hI, hR, -⟩ := h
  have hcl : ∀ v Mc, m_X3_processOldest 64 (nI k) M1 = some (v, Mc) → m_X5_deliver 0 (nI k) G M = some (v, G1, Mc) := fun v Mc hv => by
    unfold m_X5_deliver
    rw [exN hR hI hk, bind_s, show gF M (67 + 3 * k) 0 = 1 from (rc_n hR hI hk).1.trans hu, if_neg (show ¬ (1 : Int32) = 0 by decide), e1, bind_s, hv, bind_s]
  rcases wait_of hI hk with hw | ⟨w, hw1, hw⟩
  · exact ⟨-1, G1, M1, r, hcl _ _ (proc_none hR1 hI hk hw), hkk _ _ nc lc Fg.rf hR1 hI, Go.rf⟩
  · obtain ⟨v, r', -, hI', -, -, -, -, hc, hg⟩ := proc_both hI hk hu hw hw1
    obtain ⟨Mc, ec, hRc, hFc⟩ := hc 64 M1 (by omega) hR1
    exact ⟨v, G1, Mc, r', hcl _ _ ec, hkk _ _ nc lc hFc hRc hI', hg⟩
/-- deliverAll -/
theorem w_all (h : Tp G M r nc lc n nx) : ∃ v G1 M1 r', m_X5_deliverAll 0 G M = some (v, G1, M1) ∧ Out G M r r' nc lc n nx G1 M1 ∧ Go lc 800 r r' := by
  obtain ⟨G1, M1, e1, hR1, hm1, hkk⟩ := begin3 h
  obtain ⟨hI, hR, -⟩ := h
  obtain ⟨s, r', hI', hr, hc, hg⟩ := outer_ok (nc := nc) (lc := lc) 100 r (by omega) hI (fun j hj => by
    obtain ⟨-, ⟨w, hw, k1, -⟩, -⟩ := inv_n hI hj
    exact ⟨w, hw, k1⟩)
  obtain ⟨Mc, d1, d2, d3⟩ := hc M1 fuel 0 0 G1 hR1 (by omega) (by unfold fuel; omega)
  refine ⟨0 + s, G1, Mc, r', ?_, hkk _ _ nc lc d2 d1 hI', hg⟩
  unfold m_X5_deliverAll
  rw [e1, bind_s]
  exact d3
/-- createLedger -/
theorem w_create (h : Tp G M r nc lc n nx) {E W A : Nat} (hl : lc < 4) (h1 : 1 ≤ E ∧ E ≤ 5) (h2 : 1 ≤ W ∧ W ≤ E) (h3 : 1 ≤ A ∧ A ≤ W) (hup : E ≤ pc (upM r nc)) : ∃ G1 M1, m_X5_createLedger 0 (nI E) (nI W) (nI A) G M = some (nI lc, G1, M1) ∧ Out G M r (rNew r nc lc E W A) nc (lc + 1) n nx G1 M1 := by
  obtain ⟨G1, M1, e1, hR1, hm1, hkk⟩ := begin3 h
  obtain ⟨hI, hR, -⟩ := h
  have h8 := hI.1
  have hpu : pc (upM r nc) ≤ 8 := pc_le
  obtain ⟨Mc, ec, hRc, hFc⟩ := begL_ok hR1 hI hm1 hl h1 h2 h3 hup
  refine ⟨G1, Mc, ?_, hkk _ _ nc (lc + 1) hFc hRc (new_I hI hl h1 h2 h3 hup)⟩
  unfold m_X5_createLedger
  rw [if_neg (show ¬ nI E < 1 from nI_nlt (b := 1) h1.1 (by omega)), if_pos (show nI E ≤ 5 from nI_le (b := 5) h1.2 (by omega)), if_neg (show ¬ nI W < 1 from nI_nlt (b := 1) h2.1 (by omega)), if_pos (nI_le h2.2 (by omega)), if_neg (show ¬ nI A < 1 from nI_nlt (b := 1) h3.1 (by omega)), if_pos (nI_le h3.2 (by omega)), rc_lc hR hI, if_pos (show nI lc < 4 from nI_lt (b := 4) hl (by omega)), upM_ok hR hI, bind_s, bitc_ok (mkM_lt h8), if_pos (nI_le hup (by omega)), e1, bind_s, ec, bind_s]
/-- append -/
theorem w_append (h : Tp G M r nc lc n nx) {l p : Nat} (hl : l < lc) (hp : p < 1000) (h0 : vf r l 3 = 0) (h40 : vf r l 4 < 40) : ∃ v G1 M1 r', m_X5_append 0 (nI l) (nI p) G M = some (v, G1, M1) ∧ Out G M r r' nc lc n nx G1 M1 ∧ Go lc 0 r r' := by
  obtain ⟨G1, M1, e1, hR1, hm1, hkk⟩ := begin3 h
  obtain ⟨hI, hR, -⟩ := h
  have hC := rc_l hR hI hl
  have hL := inv_l hI hl
  have g4 : gF M (91 + 5 * l) 4 = nI (vf r l 3) := by rw [show gF M (91 + 5 * l) 4 = _ from hC.2.2.2.2.1, hL.1 3 (by omega) (by omega)]
  have g5 : gF M (91 + 5 * l) 5 = nI (vf r l 4) := by rw [show gF M (91 + 5 * l) 5 = _ from hC.2.2.2.2.2.1, hL.1 4 (by omega) (by omega)]
  obtain ⟨r', hI', -, hc, hg⟩ := write_both (e := vf r l 4) (p := p) hI hl rfl h40 (by omega) h0
  obtain ⟨Mc, hRc, hFc, ec⟩ := hc M1 hR1
  refine ⟨nI (vf r l 4), G1, Mc, r', ?_, hkk _ _ nc lc hFc hRc hI', hg⟩
  unfold m_X5_append
  rw [exL hR hI hl, bind_s, if_neg (nI_pos (by omega)), if_pos (le_999 hp), g4, h0, if_pos (show nI 0 = 0 from rfl), g5, if_pos (show nI (vf r l 4) < 40 from nI_lt (b := 40) h40 (by omega)), e1, bind_s]
  show Option.bind (m_X3_write 64 (64 + 27 + 5 * l) (nI p) M1) _ = _
  rw [ec, bind_s]
/-- replace -/
theorem w_replace (h : Tp G M r nc lc n nx) {l pos k : Nat} (hl : l < lc) (h0 : vf r l 3 = 0) (hpos : pos < vf r l 0) (hch : rCh r (orB (mbf r l (vf r l 6 - 1)) (vf r l 0)) nc = some k) : ∃ v G1 M1 r', m_X5_replace 0 (nI l) (nI pos) G M = some (v, G1, M1) ∧ Out G M r r' nc lc n nx G1 M1 ∧ Go lc 0 r r' := by
  obtain ⟨G1, M1, e1, hR1, hm1, hkk⟩ := begin3 h
  obtain ⟨hI, hR, -⟩ := h
  have h8 := hI.1
  have hC := rc_l hR hI hl
  have hL := inv_l hI hl
  have hE := hL.2.1
  have hF := hL.2.2.2.2.2.2.1
  have hmm := hL.2.2.2.2.2.2.2.2.2.2.1
  have hk := rCh_lt nc k hch
  have hS : orB (mbf r l (vf r l 6 - 1)) (vf r l 0) < 256 := orB_lt (fun i hi => Nat.lt_of_lt_of_le (hmm _ i (by omega) hi) h8)
  have g4 : gF M (91 + 5 * l) 4 = nI (vf r l 3) := by rw [show gF M (91 + 5 * l) 4 = _ from hC.2.2.2.2.1, hL.1 3 (by omega) (by omega)]
  have g1 : gF M (91 + 5 * l) 1 = nI (vf r l 0) := by rw [show gF M (91 + 5 * l) 1 = _ from hC.2.1, hL.1 0 (by omega) (by omega)]
  have h7 : m_X0_lastFragment (91 + 5 * l) M = nI (vf r l 6 - 1) := by
    unfold m_X0_lastFragment
    rw [show gF M (91 + 5 * l) 7 = _ from hC.2.2.2.2.2.2.2.1, hL.1 6 (by omega) (by omega), nI_sub1 (by omega)]
  obtain ⟨r', hI', -, hc, hg⟩ := rp_both hI hl h0 hpos hch
  obtain ⟨Mc, hRc, hFc, ec⟩ := hc M1 hR1
  refine ⟨nI k, G1, Mc, r', ?_, hkk _ _ nc lc hFc hRc hI', hg⟩
  have hen : m_X0_ensembleMask (91 + 5 * l) (nI (vf r l 6 - 1)) M = _ := ensM_ok hC hL h8 (show vf r l 6 - 1 < vf r l 6 by omega)
  unfold m_X5_replace
  rw [exL hR hI hl, bind_s, if_neg (nI_pos (by omega)), g1, if_pos (nI_lt hpos (by omega)), g4, h0, if_pos (show nI 0 = 0 from rfl), h7, hen, bind_s, cchoose_ok hR hI hS, bind_s, hch, show on1 (some k) = nI k from rfl, if_neg (nI_m1 (by omega)), e1, bind_s]
  show Option.bind (m_X3_changeEnsemble 64 (64 + 27 + 5 * l) (nI pos) (nI k) M1) _ = _
  rw [ec, bind_s]
/-- recover -/
theorem w_recover (h : Tp G M r nc lc n nx) {l : Nat} (hl : l < lc) (h3 : vf r l 3 ≠ 2) : ∃ v G1 M1 r', m_X5_recover 0 (nI l) G M = some (v, G1, M1) ∧ Out G M r r' nc lc n nx G1 M1 ∧ Go lc 0 r r' := by
  obtain ⟨G1, M1, e1, hR1, hm1, hkk⟩ := begin3 h
  obtain ⟨hI, hR, -⟩ := h
  have hC := rc_l hR hI hl
  have hL := inv_l hI hl
  have h3v := hL.2.2.2.2.1
  have g4 : gF M (91 + 5 * l) 4 = nI (vf r l 3) := by rw [show gF M (91 + 5 * l) 4 = _ from hC.2.2.2.2.1, hL.1 3 (by omega) (by omega)]
  obtain ⟨v, r', hI', -, hc, hg⟩ := recover_both hI hl h3
  obtain ⟨Mc, hRc, hFc, ec⟩ := hc M1 hR1
  refine ⟨v, G1, Mc, r', ?_, hkk _ _ nc lc hFc hRc hI', hg⟩
  unfold m_X5_recover
  rw [exL hR hI hl, bind_s, g4, if_neg (show ¬ nI (vf r l 3) = 2 from nI_ne (b := 2) (by omega) (by omega) h3), e1, bind_s]
  show Option.bind (m_X3_recoverLedger 64 (64 + 27 + 5 * l) M1) _ = _
  rw [ec, bind_s]
/-- repair -/
theorem w_repair (h : Tp G M r nc lc n nx) {l : Nat} (hl : l < lc) (h3 : vf r l 3 = 2) : ∃ v G1 M1 r', m_X5_repair 0 (nI l) G M = some (v, G1, M1) ∧ Out G M r r' nc lc n nx G1 M1 ∧ Go lc 0 r r' := by
  obtain ⟨G1, M1, e1, hR1, hm1, hkk⟩ := begin3 h
  obtain ⟨hI, hR, -⟩ := h
  have h4 := hI.2.1
  have hC := rc_l hR hI hl
  have hL := inv_l hI hl
  have hF := hL.2.2.2.2.2.2.1
  have g4 : gF M (91 + 5 * l) 4 = nI (vf r l 3) := by rw [show gF M (91 + 5 * l) 4 = _ from hC.2.2.2.2.1, hL.1 3 (by omega) (by omega)]
  obtain ⟨r1, I1, m1, -, hc1⟩ := rd_out (vf r l 6) 0 r hI hl (by omega)
  have hL1 := inv_l I1 hl
  obtain ⟨K, hK, hla⟩ := hL1.2.2.2.2.2.2.2.2.2.2.2.2.2.2.2
  have hrd : rRd r1 l = nI K - 1 := by
    unfold rRd
    rw [m1.1.v (by omega), h3, if_neg (by decide), if_pos rfl, hla]
  obtain ⟨s, r', hI', -, hc2, hg2⟩ := rep_both (l := l) hK K 0 r1 (by omega) I1 hl hla
  obtain ⟨Mb, Rb, Fb', eb⟩ := hc1 M1 fuel hR1 (by unfold fuel; omega)
  obtain ⟨Mc, hRc, Fc', ec⟩ := hc2 Mb fuel 0 Rb (by unfold fuel; omega)
  have hg1 : Go lc 0 r r1 := ⟨fun hY => Y.mem hI hl h3 m1.2 hY, fun k hk => ⟨k, (m1.2 2 (by omega)).trans hk, by omega⟩, Ke.of h4 (fun m hm => m1.2 _ (by omega)) (fun k hk => m1.2 _ (by omega))⟩
  rw [Int32.zero_add] at ec
  refine ⟨s, G1, Mc, r', ?_, hkk _ _ nc lc (Fb'.tr Fc') hRc hI', hg1.tr hg2⟩
  unfold m_X5_repair
  rw [exL hR hI hl, bind_s, g4, h3, if_pos (show nI 2 = 2 from rfl), e1, bind_s]
  show Option.bind (m_X3_replaceDownNodes_L2 64 (64 + 27 + 5 * l) fuel (nI 0) M1) (fun z15 => Option.bind (m_X3_copyMissingEntries 64 (64 + 27 + 5 * l) z15) _) = _
  rw [eb, bind_s]
  unfold m_X3_copyMissingEntries
  rw [cread_ok (rc_l Rb I1 hl) hL1, bind_s, hrd, min39 hK]
  show Option.bind (m_X3_copyMissingEntries_L15 64 (64 + 27 + 5 * l) fuel 0 (nI K - 1) (nI 0) Mb) _ = _
  rw [ec, bind_s]
end CALLS3
