/-! createLedger: its arguments -/
theorem in_0a {x y : Int32} (h : x < 1) : m_X6_in x 1 y = 0 := by
  unfold m_X6_in
  rw [if_pos h]
theorem in_0b {x y : Int32} (h : ¬ x ≤ y) : m_X6_in x 1 y = 0 := by
  unfold m_X6_in
  rw [if_pos (Int32.not_le.mp h), ite_self]
theorem in_1 {x y : Int32} (h : ¬ x < 1) (h2 : x ≤ y) : m_X6_in x 1 y = 1 := by
  unfold m_X6_in
  rw [if_neg h, if_neg (Int32.not_lt.mpr h2)]
theorem arg_1 {x : Int32} (h : ¬ x < 1) : ∃ k : Nat, 1 ≤ k ∧ k < 2147483648 ∧ x = nI k := by
  have h0 : ¬ x < 0 := fun q => h (by
    rw [Int32.lt_iff_toInt_lt] at q ⊢
    have e0 : (0 : Int32).toInt = 0 := rfl
    have e1 : (1 : Int32).toInt = 1 := rfl
    omega)
  obtain ⟨j, hj, rfl⟩ := nI_of h0
  refine ⟨j, ?_, hj, rfl⟩
  rcases Nat.eq_zero_or_pos j with hz | hz
  · exact absurd (by rw [hz]; decide) h
  · exact hz
theorem nI_le' {a b : Nat} (ha : a < 2147483648) (hb : b < 2147483648) (h : nI a ≤ nI b) : a ≤ b := Nat.le_of_not_lt fun q => nI_ge q ha h
theorem cre_arg (x1 x2 x3 : Int32) : (∃ E W A : Nat, x1 = nI E ∧ x2 = nI W ∧ x3 = nI A ∧ (1 ≤ E ∧ E ≤ 5) ∧ (1 ≤ W ∧ W ≤ E) ∧ 1 ≤ A ∧ A ≤ W) ∨ ((∀ G M, m_X5_createLedger 0 x1 x2 x3 G M = some (.inr 1)) ∧ ∀ N, m_X6_createLedger 3 x1 x2 x3 N = m_X6_createLedger_b32 3 x1 x2 x3 0 N) := by
  have ne : ¬ (1 : Int32) = 0 := by decide
  unfold m_X5_createLedger m_X6_createLedger
  by_cases a1 : x1 < 1
  · refine Or.inr ⟨fun G M => by rw [if_pos a1], fun N => by rw [in_0a a1, if_pos rfl]⟩
  · by_cases a2 : x1 ≤ 5
    · by_cases b1 : x2 < 1
      · refine Or.inr ⟨fun G M => by rw [if_neg a1, if_pos a2, if_pos b1], fun N => by rw [in_1 a1 a2, if_neg ne, in_0a b1, if_pos rfl]⟩
      · by_cases b2 : x2 ≤ x1
        · by_cases c1 : x3 < 1
          · refine Or.inr ⟨fun G M => by rw [if_neg a1, if_pos a2, if_neg b1, if_pos b2, if_pos c1], fun N => by rw [in_1 a1 a2, if_neg ne, in_1 b1 b2, if_neg ne, in_0a c1, if_pos rfl]⟩
          · by_cases c2 : x3 ≤ x2
            · obtain ⟨E, E1, E2, rfl⟩ := arg_1 a1
              obtain ⟨W, W1, W2, rfl⟩ := arg_1 b1
              obtain ⟨A, A1, A2, rfl⟩ := arg_1 c1
              exact Or.inl ⟨E, W, A, rfl, rfl, rfl, ⟨E1, nI_le' (b := 5) E2 (by omega) a2⟩, ⟨W1, nI_le' W2 E2 b2⟩, A1, nI_le' A2 W2 c2⟩
            · refine Or.inr ⟨fun G M => by rw [if_neg a1, if_pos a2, if_neg b1, if_pos b2, if_neg c1, if_neg c2], fun N => by rw [in_1 a1 a2, if_neg ne, in_1 b1 b2, if_neg ne, in_0b c2, if_pos rfl]⟩
        · refine Or.inr ⟨fun G M => by rw [if_neg a1, if_pos a2, if_neg b1, if_neg b2], fun N => by rw [in_1 a1 a2, if_neg ne, in_0b b2, if_pos rfl]⟩
    · refine Or.inr ⟨fun G M => by rw [if_neg a1, if_neg a2], fun N => by rw [in_0b a2, if_pos rfl]⟩
theorem done_10 {G : Nat → Bool} {M : Mem} {x y w : Int32} (h : Top G M) : ∃ G' M', s_10 x y w G M = some (G', M') ∧ Top G' M' := by
  obtain ⟨nc, lc, G1, M1, hI, hR, e1, hR1, hm1, hr1, hk⟩ := begin2 h
  have h8 := hI.1
  have h4 := hI.2.1
  unfold s_10
  rcases cre_arg x y w with ⟨E, W, A, rfl, rfl, rfl, hE, hW, hA⟩ | ⟨hc, hr⟩
  · have i1 : m_X6_in (nI E) 1 5 = 1 := in_1 (nI_nlt (b := 1) hE.1 (by omega)) (nI_le (b := 5) hE.2 (by omega))
    have i2 : m_X6_in (nI W) 1 (nI E) = 1 := in_1 (nI_nlt (b := 1) hW.1 (by omega)) (nI_le hW.2 (by omega))
    have i3 : m_X6_in (nI A) 1 (nI W) = 1 := in_1 (nI_nlt (b := 1) hA.1 (by omega)) (nI_le hA.2 (by omega))
    have hpu : pc (upM (gR M 4) nc) ≤ 8 := pc_le
    have hcl : m_X5_createLedger 0 (nI E) (nI W) (nI A) G M = if nI lc < 4 then (if nI E ≤ nI (pc (upM (gR M 4) nc)) then (Option.bind (m_X3_beginLedger 64 (nI E) (nI W) (nI A) M1) fun z20 => (some (.inl (z20.1, G1, z20.2)))) else some (.inr 2)) else some (.inr 2) := by
      unfold m_X5_createLedger
      rw [if_neg (show ¬ nI E < 1 from nI_nlt (b := 1) hE.1 (by omega)), if_pos (show nI E ≤ 5 from nI_le (b := 5) hE.2 (by omega)), if_neg (show ¬ nI W < 1 from nI_nlt (b := 1) hW.1 (by omega)), if_pos (nI_le hW.2 (by omega)), if_neg (show ¬ nI A < 1 from nI_nlt (b := 1) hA.1 (by omega)), if_pos (nI_le hA.2 (by omega)), rc_lc hR hI, upM_ok hR hI, bind_s, bitc_ok (mkM_lt h8), e1, bind_s]
    have hrf : ∀ N, gR N 4 = gR M 4 → m_X6_createLedger 3 (nI E) (nI W) (nI A) N = if 4 ≤ nI lc then m_X6_createLedger_b60 3 (nI E) (nI W) (nI A) 3 1 0 N else if nI (pc (upM (gR M 4) nc)) < nI E then m_X6_createLedger_b60 3 (nI E) (nI W) (nI A) 3 1 0 N else m_X6_createLedger_b60 3 (nI E) (nI W) (nI A) 3 1 1 N := fun N hN => by
      unfold m_X6_createLedger
      rw [i1, if_neg (show ¬ (1 : Int32) = 0 by decide), i2, if_neg (show ¬ (1 : Int32) = 0 by decide), i3, if_neg (show ¬ (1 : Int32) = 0 by decide)]
      unfold m_X6_createLedger_b32
      rw [ck_1 (by omega), cl_1, ups_ok (M := N) (nc := nc) (lc := lc) (by rw [hN]; exact hI), bind_s, hN, hI.2.2.2.1]
    by_cases hq : lc < 4 ∧ E ≤ pc (upM (gR M 4) nc)
    · obtain ⟨Mc, ec, hRc, hFc⟩ := begL_ok hR1 hI hm1 hq.1 hE hW hA hq.2
      obtain ⟨h4', M3, e3, b4, b3, b5, hT⟩ := hk Mc (sF 3 3 0 (oL (nI lc).toInt64 Mc)) (rNew (gR M 4) nc lc E W A) nc (lc + 1) hFc (Qu.rf.oL.s3) hRc (new_I hI hq.1 hE hW hA hq.2)
      have hrc : gR (oL (nI lc).toInt64 Mc) 4 = gR M 4 := h4'
      refine ⟨G1, sR 4 (rNew (gR M 4) nc lc E W A) M3, case_i (z := m_X6_createLedger 3 (nI E) (nI W) (nI A)) (M := oL (nI lc).toInt64 Mc) (v := nI lc) ?_ ?_ (b3.trans gF_self) ?_, hT⟩
      · unfold m_L_createLedger
        rw [hcl, if_pos (show nI lc < 4 from nI_lt (b := 4) hq.1 (by omega)), if_pos (nI_le hq.2 (by omega)), ec]
        rfl
      · rw [hrf _ hrc, if_neg (show ¬ (4 : Int32) ≤ nI lc from nI_ge (b := 4) hq.1 (by omega)), if_neg (nI_nlt hq.2 (by omega))]
        unfold m_X6_createLedger_b60
        rw [fine0, if_neg ne10, e3, bind_s, ck_1 (by omega), ck_1 (by omega), ck_1 (by omega), cl_1, b4, hI.2.2.2.1, nI_1, show aI 4 1 (nI (lc + 1)) M3 = sR 4 (upd (gR M 4) 1 (nI (lc + 1))) M3 from by rw [show (1 : Int32) = nI 1 from rfl, aI_nI (by omega), b4]]
        rw [show m_X6_set 3 (nI lc) 0 _ _ = _ from set_ok (w := 0) (by omega), bind_s, gR_self, sR_sR, show m_X6_set 3 (nI lc) 1 _ _ = _ from set_ok (w := 1) (by omega), bind_s, gR_self, sR_sR, show m_X6_set 3 (nI lc) 2 _ _ = _ from set_ok (w := 2) (by omega), bind_s, gR_self, sR_sR, show m_X6_set 3 (nI lc) 5 _ _ = _ from set_ok (w := 5) (by omega), bind_s, gR_self, sR_sR, show m_X6_set 3 (nI lc) 6 _ _ = _ from set_ok (w := 6) (by omega), bind_s, gR_self, sR_sR]
        have hl := cre_ref (M := M3) (r := gR M 4) (l := lc) (W := W) (A := A) (x2 := nI W) (x3 := nI A) h8 hI.2.2.1 hq.1 hE.2 hq.2 E 0 fuel (by omega) (by unfold fuel; omega)
        rw [show rCk (rC0 (gR M 4) lc E W A) lc (gC (gR M 4) nc) 0 = rC0 (gR M 4) lc E W A from funext fun i => if_neg (fun q => by omega)] at hl
        exact hl
      · show go (sR 4 _ M3) 0 = _
        rw [show go (sR 4 (rNew (gR M 4) nc lc E W A) M3) = go M3 from rfl, go_of b5]
        exact go_oL
    · refine ⟨G, sF 3 3 2 M, case_t (z := m_X6_createLedger 3 (nI E) (nI W) (nI A)) (M := M) (v := 0) (k := 2) ?_ ?_ gF_self (by decide), h.qu (Qu.rf.s3)⟩
      · unfold m_L_createLedger
        rw [hcl]
        by_cases hl : lc < 4
        · rw [if_pos (show nI lc < 4 from nI_lt (b := 4) hl (by omega)), if_neg (nI_ge (by omega) (by omega))]
          rfl
        · rw [if_neg (show ¬ nI lc < 4 from nI_nlt (b := 4) (by omega) (by omega))]
          rfl
      · have hb : m_X6_createLedger_b60 3 (nI E) (nI W) (nI A) 3 1 0 M = some (0, sF 3 3 2 M) := by
          unfold m_X6_createLedger_b60
          rw [fine2, if_pos rfl]
        rw [hrf M rfl, hb]
        by_cases hl : lc < 4
        · rw [if_pos (nI_lt (show pc (upM (gR M 4) nc) < E by omega) (by omega)), ite_self]
        · rw [if_pos (show (4 : Int32) ≤ nI lc from nI_le (a := 4) (by omega) (by omega))]
  · refine ⟨G, sF 3 3 1 M, case_t (z := m_X6_createLedger 3 x y w) (M := M) (v := 0) (k := 1) ?_ ?_ gF_self (by decide), h.qu (Qu.rf.s3)⟩
    · unfold m_L_createLedger
      rw [hc, bind_s]
      rfl
    · rw [hr, cre_bad hI]
