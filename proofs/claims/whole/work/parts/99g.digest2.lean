/-! digest: the reference -/
section DIR
variable {N : Mem} {nc lc l f : Nat}
theorem rof {h : Int64} (hI : Inv (gR N 4) nc lc) (hl : l < lc) {w : Nat} (hw : w < 333) (h5 : w ≠ 5) : m_X6_of 3 (nI l) (nI w) (sh h N) = some (nI (vf (gR N 4) l w)) := of_o (M := sh h N) hI hl hw h5
theorem rdx (hI : Inv (gR N 4) nc lc) (hl : l < 4) : ∀ (d n g : Nat) (h : Int64), n + d = nc → d < g → m_X6_addLedger_L199 3 (nI l) g (nI n) (sh h N) = some (sh (dFe (gR N 4) l d n h) N) := by
  have h8 := hI.1
  intro d
  induction d with
  | zero =>
    intro n g h h1 h2
    obtain ⟨g, rfl⟩ : ∃ k, g = k + 1 := ⟨g - 1, by omega⟩
    rw [m_X6_addLedger_L199_s, ck_0 (by omega), cl_0, gR_sh, hI.2.2.1, if_pos (nI_le (by omega) (by omega))]
    rfl
  | succ d ih =>
    intro n g h h1 h2
    obtain ⟨g, rfl⟩ : ∃ k, g = k + 1 := ⟨g - 1, by omega⟩
    rw [m_X6_addLedger_L199_s, ck_0 (by omega), cl_0, gR_sh, hI.2.2.1, if_neg (nI_ge (by omega) (by omega)), show (2099 : Int32) = nI 2099 from rfl, show (4 : Int32) = nI 4 from rfl, nI_mul, nI_add, nI_add, ck_ix (by omega) (by omega), cl_nI (by omega), add_sh, nI_1]
    exact ih (n + 1) g _ (by omega) (by omega)
theorem rde (hI : Inv (gR N 4) nc lc) (hl : l < lc) : ∀ (d e g : Nat) (h : Int64), e + d = vf (gR N 4) l 4 → d < g → m_X6_addLedger_L142 3 (nI l) g (nI e) (sh h N) = some (sh (dFe (gR N 4) l nc 0 (dEn (gR N 4) l nc d e h)) N) := by
  have hL := inv_l hI hl
  have h4 := hI.2.1
  have h8 := hI.1
  have h40 := hL.2.2.2.2.2.1
  have hof : ∀ h : Int64, m_X6_of 3 (nI l) 4 (sh h N) = some (nI (vf (gR N 4) l 4)) := fun h => rof hI hl (w := 4) (by omega) (by omega)
  have hho : ∀ (e : Nat) (h : Int64), e < 40 → m_X6_holding 3 (nI l) (nI e) (sh h N) = some (nI (hoM (gR N 4) l e nc)) := fun e h he => hold_ok (M := sh h N) hI (by omega) he
  intro d
  induction d with
  | zero =>
    intro e g h h1 h2
    obtain ⟨g, rfl⟩ : ∃ k, g = k + 1 := ⟨g - 1, by omega⟩
    rw [m_X6_addLedger_L142_s, hof, bind_s, if_pos (nI_le (by omega) (by omega))]
    exact rdx hI (by omega) nc 0 fuel h (by omega) (by unfold fuel; omega)
  | succ d ih =>
    intro e g h h1 h2
    obtain ⟨g, rfl⟩ : ∃ k, g = k + 1 := ⟨g - 1, by omega⟩
    have hk := hL.2.2.2.2.2.2.2.2.2.2.2.2.1 e (by omega)
    rw [m_X6_addLedger_L142_s, hof, bind_s, if_neg (nI_ge (by omega) (by omega)), show (7 : Int32) = nI 7 from rfl, show (47 : Int32) = nI 47 from rfl, nI_add, nI_add, rof hI hl (by omega) (by omega), bind_s, add_sh, rof hI hl (by omega) (by omega), bind_s, count_ok hk, bind_s, add_sh, hho e _ (by omega), bind_s, add_sh, nI_1]
    exact ih (e + 1) g _ (by omega) (by omega)
theorem rdf_in (hI : Inv (gR N 4) nc lc) (hl : l < lc) (hf : f < vf (gR N 4) l 6) {k81 : Int32 → Mem → Option Mem} : ∀ (d p g : Nat) (h : Int64), p + d = vf (gR N 4) l 0 → d < g → m_X6_addLedger_L107 3 (nI l) k81 g (nI f) (nI p) (sh h N) = k81 (nI (f + 1)) (sh (dFi (gR N 4) l f d p h) N) := by
  have hL := inv_l hI hl
  have h4 := hI.2.1
  have hE := hL.2.1
  have hF := hL.2.2.2.2.2.2.1
  have hof : ∀ h : Int64, m_X6_of 3 (nI l) 0 (sh h N) = some (nI (vf (gR N 4) l 0)) := fun h => rof hI hl (w := 0) (by omega) (by omega)
  intro d
  induction d with
  | zero =>
    intro p g h h1 h2
    obtain ⟨g, rfl⟩ : ∃ k, g = k + 1 := ⟨g - 1, by omega⟩
    rw [m_X6_addLedger_L107_s, hof, bind_s, if_pos (nI_le (by omega) (by omega)), nI_1]
    rfl
  | succ d ih =>
    intro p g h h1 h2
    obtain ⟨g, rfl⟩ : ∃ k, g = k + 1 := ⟨g - 1, by omega⟩
    have hme : m_X6_memberOf 3 (nI l) (nI f) (nI p) (sh h N) = some (nI (mbf (gR N 4) l f p)) := by
      rw [memberOf_ok (by omega), gR_sh, hL.1 (128 + 5 * f + p) (by omega) (by omega)]
    rw [m_X6_addLedger_L107_s, hof, bind_s, if_neg (nI_ge (by omega) (by omega)), hme, bind_s, add_sh, nI_1]
    exact ih (p + 1) g _ (by omega) (by omega)
theorem rdf_out (hI : Inv (gR N 4) nc lc) (hl : l < lc) : ∀ (d f g : Nat) (h : Int64), f + d = vf (gR N 4) l 6 → d < g → m_X6_addLedger_L81 3 (nI l) g (nI f) (sh h N) = some (sh (dFe (gR N 4) l nc 0 (dEn (gR N 4) l nc (vf (gR N 4) l 4) 0 (dFo (gR N 4) l d f h))) N) := by
  have hL := inv_l hI hl
  have h4 := hI.2.1
  have hE := hL.2.1
  have hF := hL.2.2.2.2.2.2.1
  have h40 := hL.2.2.2.2.2.1
  have hof : ∀ h : Int64, m_X6_of 3 (nI l) 6 (sh h N) = some (nI (vf (gR N 4) l 6)) := fun h => rof hI hl (w := 6) (by omega) (by omega)
  intro d
  induction d with
  | zero =>
    intro f g h h1 h2
    obtain ⟨g, rfl⟩ : ∃ k, g = k + 1 := ⟨g - 1, by omega⟩
    rw [m_X6_addLedger_L81_s, hof, bind_s, if_pos (nI_le (by omega) (by omega))]
    exact rde hI hl (vf (gR N 4) l 4) 0 fuel h (by omega) (by unfold fuel; omega)
  | succ d ih =>
    intro f g h h1 h2
    obtain ⟨g, rfl⟩ : ∃ k, g = k + 1 := ⟨g - 1, by omega⟩
    rw [m_X6_addLedger_L81_s, hof, bind_s, if_neg (nI_ge (by omega) (by omega)), show (87 : Int32) = nI 87 from rfl, nI_add, rof hI hl (by omega) (by omega), bind_s, add_sh]
    refine (show _ = _ from rdf_in hI hl (by omega) (vf (gR N 4) l 0) 0 fuel _ (by omega) (by unfold fuel; omega)).trans ?_
    exact ih (f + 1) g _ (by omega) (by omega)
theorem rdl (hI : Inv (gR N 4) nc lc) (hl : l < lc) {K : Nat} (hK : K ≤ 40) (hr : rRd (gR N 4) l = nI K - 1) {h : Int64} : m_X6_addLedger 3 (nI l) (sh h N) = some (sh (dLe (gR N 4) nc l K h) N) := by
  have hL := inv_l hI hl
  have h4 := hI.2.1
  have hF := hL.2.2.2.2.2.2.1
  have o0 : ∀ h : Int64, m_X6_of 3 (nI l) 0 (sh h N) = some (nI (vf (gR N 4) l 0)) := fun h => rof hI hl (w := 0) (by omega) (by omega)
  have o1 : ∀ h : Int64, m_X6_of 3 (nI l) 1 (sh h N) = some (nI (vf (gR N 4) l 1)) := fun h => rof hI hl (w := 1) (by omega) (by omega)
  have o2 : ∀ h : Int64, m_X6_of 3 (nI l) 2 (sh h N) = some (nI (vf (gR N 4) l 2)) := fun h => rof hI hl (w := 2) (by omega) (by omega)
  have o3 : ∀ h : Int64, m_X6_of 3 (nI l) 3 (sh h N) = some (nI (vf (gR N 4) l 3)) := fun h => rof hI hl (w := 3) (by omega) (by omega)
  have o4 : ∀ h : Int64, m_X6_of 3 (nI l) 4 (sh h N) = some (nI (vf (gR N 4) l 4)) := fun h => rof hI hl (w := 4) (by omega) (by omega)
  have o6 : ∀ h : Int64, m_X6_of 3 (nI l) 6 (sh h N) = some (nI (vf (gR N 4) l 6)) := fun h => rof hI hl (w := 6) (by omega) (by omega)
  have or' : ∀ h : Int64, m_X6_readable 3 (nI l) (sh h N) = some (nI K - 1) := fun h => (readable_ok (M := sh h N) (by omega) hL).trans (congrArg some hr)
  have ou : ∀ h : Int64, m_X6_under 3 (nI l) (sh h N) = some (nI (rUn (gR N 4) l K)) := fun h => under_ok (M := sh h N) hI hl hK hr
  unfold m_X6_addLedger
  rw [o0, bind_s, add_sh, o1, bind_s, add_sh, o2, bind_s, add_sh, o3, bind_s, add_sh, or', bind_s, add_sh, o4, bind_s, add_sh, ou, bind_s, add_sh, o6, bind_s, add_sh]
  exact rdf_out hI hl (vf (gR N 4) l 6) 0 fuel _ (by omega) (by unfold fuel; omega)
theorem rdls (hI : Inv (gR N 4) nc lc) : ∀ (d l g : Nat) (h : Int64), l + d = lc → d < g → m_X6_digest_L116 3 g (nI l) (sh h N) = some (dLs (gR N 4) nc d l h, sh (dLs (gR N 4) nc d l h) N) := by
  have h4 := hI.2.1
  intro d
  induction d with
  | zero =>
    intro l g h h1 h2
    obtain ⟨g, rfl⟩ : ∃ k, g = k + 1 := ⟨g - 1, by omega⟩
    rw [m_X6_digest_L116_s, ck_1 (by omega), cl_1, gR_sh, hI.2.2.2.1, if_pos (nI_le (by omega) (by omega))]
    rfl
  | succ d ih =>
    intro l g h h1 h2
    obtain ⟨g, rfl⟩ : ∃ k, g = k + 1 := ⟨g - 1, by omega⟩
    have hl : l < lc := by omega
    have hK := rK_ok (inv_l hI hl)
    rw [m_X6_digest_L116_s, ck_1 (by omega), cl_1, gR_sh, hI.2.2.2.1, if_neg (nI_ge (by omega) (by omega)), rdl hI hl hK.1 hK.2, bind_s, nI_1]
    exact ih (l + 1) g _ (by omega) (by omega)
theorem rdns (hI : Inv (gR N 4) nc lc) : ∀ (d n g : Nat) (h : Int64), n + d = nc → d < g → m_X6_digest_L42 3 g (nI n) (sh h N) = some (dLs (gR N 4) nc lc 0 (dS (dNs (gR N 4) nc d n h) (nI lc)), sh (dLs (gR N 4) nc lc 0 (dS (dNs (gR N 4) nc d n h) (nI lc))) N) := by
  have h8 := hI.1
  have h4 := hI.2.1
  intro d
  induction d with
  | zero =>
    intro n g h h1 h2
    obtain ⟨g, rfl⟩ : ∃ k, g = k + 1 := ⟨g - 1, by omega⟩
    rw [m_X6_digest_L42_s, ck_0 (by omega), cl_0, gR_sh, hI.2.2.1, if_pos (nI_le (by omega) (by omega)), ck_1 (by omega), cl_1, hI.2.2.2.1, add_sh]
    exact rdls hI lc 0 fuel _ (by omega) (by unfold fuel; omega)
  | succ d ih =>
    intro n g h h1 h2
    obtain ⟨g, rfl⟩ : ∃ k, g = k + 1 := ⟨g - 1, by omega⟩
    have hn : n < nc := by omega
    have hw : ∀ h : Int64, m_X6_weightOf 3 (nI n) (sh h N) = some (nI (rW (gR N 4) n 160)) := fun h => weightOf_ok (M := sh h N) (by omega)
    have hs : ∀ h : Int64, m_X6_shareOf 3 (nI n) (sh h N) = some (rSh (gR N 4) nc n) := fun h => sh_ok (M := sh h N) hI hn
    rw [m_X6_digest_L42_s, ck_0 (by omega), cl_0, gR_sh, hI.2.2.1, if_neg (nI_ge (by omega) (by omega)), show (3 : Int32) = nI 3 from rfl, show (11 : Int32) = nI 11 from rfl, nI_add, nI_add, ck_ix (by omega) (by omega), ck_ix (by omega) (by omega), cl_nI (by omega), cl_nI (by omega)]
    simp only [add_sh, gR_sh]
    rw [hw, bind_s, hs, bind_s, f2ib_ok (rSh_ok (r := gR N 4) h8 hn), nI_1]
    exact ih (n + 1) g _ (by omega) (by omega)
end DIR
theorem done_26 {G : Nat → Bool} {M : Mem} (h : Top G M) : ∃ G' M', s_26 G M = some (G', M') ∧ Top G' M' := by
  obtain ⟨⟨nc, lc, hI, hR⟩, -, n, nx, hn, hx, h0, h1, h5, hp⟩ := id h
  have hI2 : Inv (gR (sF 3 3 0 M) 4) nc lc := hI
  refine ⟨G, sh (dLs (gR M 4) nc lc 0 (dS (dNs (gR M 4) nc nc 0 (dS (dS (dS 12109 (nI n)) (gR M 4 2)) (nI nc))) (nI lc))) (sF 3 3 0 M), ?_, h.qu (Qu.rf.s3.sh)⟩
  have hc : m_X5_digest 0 M = some (dLs (gR M 4) nc lc 0 (dS (dNs (gR M 4) nc nc 0 (dS (dS (dS 12109 (nI n)) (gR M 4 2)) (nI nc))) (nI lc))) := by
    unfold m_X5_digest
    rw [h0, hR.2.2.1, rc_nc hR hI]
    exact cdns hR hI nc 0 fuel _ (by omega) (by have := hI.1; unfold fuel; omega)
  have hr : m_X6_digest 3 M = some (dLs (gR M 4) nc lc 0 (dS (dNs (gR M 4) nc nc 0 (dS (dS (dS 12109 (nI n)) (gR M 4 2)) (nI nc))) (nI lc)), sh (dLs (gR M 4) nc lc 0 (dS (dNs (gR M 4) nc nc 0 (dS (dS (dS 12109 (nI n)) (gR M 4 2)) (nI nc))) (nI lc))) (sF 3 3 0 M)) := by
    unfold m_X6_digest
    rw [show gF (sh 12109 (sF 3 3 0 M)) 3 2 = nI n from (show gF (sF 3 3 0 M) 3 2 = nI n from (gF_ne (c := 3) (k := 3) (by decide)).trans h5)]
    simp only [add_sh, gR_sh]
    rw [show (2 : Int32) = nI 2 from rfl, ck_ix (by omega) (by omega), ck_0 (by omega), cl_nI (by omega), cl_0, show gR (sF 3 3 0 M) 4 = gR M 4 from rfl, hI.2.2.1]
    exact rdns hI2 nc 0 fuel _ (by omega) (by have := hI.1; unfold fuel; omega)
  unfold s_26
  rw [hc, bind_s, hr, bind_s]
  exact if_pos rfl
