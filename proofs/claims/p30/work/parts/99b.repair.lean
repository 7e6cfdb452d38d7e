/-! repair: copies -/
section REP
variable {nc lc l e p c n : Nat} {r : Nat → Int32}
/-- the source is there, and stores this -/
def Sr (r : Nat → Int32) (l e v : Nat) : Prop := ∃ n0, rSrc r l e (frg r l e) (vf r l 1) 0 = some n0 ∧ r (819 + 160 * n0 + 40 * l + e) = nI v
theorem sr_1 (hI : Inv r nc lc) (hl : l < lc) (he : e < 40) (hn : n < nc) (hp : p ≤ 999) (hc : c ≤ 40) (h : Sr r l e (64 * (p + 1) + c)) : Sr (rSp1 r n l e p c) l e (64 * (p + 1) + c) := by
  have h8 := hI.1
  have h4 := hI.2.1
  have hL := inv_l hI hl
  have hls := sp1_ls (r := r) (n := n) (l := l) (e := e) (p := p) (c := c) (by omega) (by omega) he
  obtain ⟨n0, h1, h2⟩ := h
  unfold Sr
  rw [lsf hls, lsv hls]
  unfold rSp1
  split
  · exact src_keep (p := p) (c := c) rfl (by omega) (by omega) (by omega) he (fun i => Nat.lt_of_lt_of_le (ws_lt hL (frg_lt hL)) h8) _ _ _ h1 h2
  · exact ⟨n0, h1, h2⟩
theorem cp_loop (hp : p ≤ 999) (hc : c ≤ 40) (he : e < 40) : ∀ (d i g : Nat) (r : Nat → Int32) (M : Mem) (v : Int32), Inv r nc lc → l < lc → i + d = vf r l 1 → d < g → gR M 4 = r → Sr r l e (64 * (p + 1) + c) → m_X6_copies_L13 3 (nI l) (nI e) g v (nI (frg r l e)) (nI i) M = some (v + nI (cSpr l e (frg r l e) p c d i r), sR 4 (rSpr l e (frg r l e) p c d i r) M) := by
  intro d
  induction d with
  | zero =>
    intro i g r M v hI hl hi hg hM hS
    obtain ⟨g, rfl⟩ : ∃ k, g = k + 1 := ⟨g - 1, by omega⟩
    have hL := inv_l hI hl
    have hW := hL.2.2.1
    have hE := hL.2.1
    have hof := of_o (M := M) (w := 1) (by rw [hM]; exact hI) hl (by omega) (by omega)
    rw [hM] at hof
    rw [m_X6_copies_L13_s, show m_X6_of 3 (nI l) 1 M = _ from hof, bind_s, if_pos (nI_le (by omega) (by omega))]
    show some (v, M) = some (v + 0, sR 4 r M)
    rw [← hM, sR_id, Int32.add_zero]
  | succ d ih =>
    intro i g r M v hI hl hi hg hM hS
    obtain ⟨g, rfl⟩ : ∃ k, g = k + 1 := ⟨g - 1, by omega⟩
    have h8 := hI.1
    have h4 := hI.2.1
    have hL := inv_l hI hl
    have hW := hL.2.2.1
    have hE := hL.2.1
    have hIM : Inv (gR M 4) nc lc := by rw [hM]; exact hI
    have hof := of_o (M := M) (w := 1) hIM hl (by omega) (by omega)
    rw [hM] at hof
    have hwr := writer_o (M := M) (f := frg r l e) (e := e) (i := i) hIM hl (by rw [hM]; exact frg_lt hL) (by omega) (by omega)
    rw [hM] at hwr
    have hso := source_ok (M := M) (e := e) hIM hl he
    obtain ⟨n0, s1, s2⟩ := id hS
    rw [hM, s1] at hso
    obtain ⟨-, -, j, hj⟩ := rSrc_some _ _ s1
    have hn0 : n0 < nc := by
      rw [hj]
      exact ws_lt hL (frg_lt hL)
    have hn := ws_lt (e := e) (i := i) hL (frg_lt (e := e) hL)
    rw [rSpr_s, cSpr_s]
    generalize mbf r l (frg r l e) ((e + i) % vf r l 0) = n at hn hwr ⊢
    have hls := sp1_ls (r := r) (n := n) (l := l) (e := e) (p := p) (c := c) (by omega) (by omega) he
    have hI1 := sp1_I (p := p) (c := c) hI hn (show l < 4 by omega) he hp hc
    have hih := fun M' v' R' => ih (i + 1) g (rSp1 r n l e p c) M' v' hI1 hl (by rw [lsv hls]; omega) (by omega) R' (sr_1 hI hl he hn hp hc hS)
    rw [lsf hls] at hih
    rw [m_X6_copies_L13_s, show m_X6_of 3 (nI l) 1 M = _ from hof, bind_s, if_neg (nI_ge (by omega) (by omega)), hwr, bind_s, hso, bind_s, show on1 (some n0) = nI n0 from rfl, if_neg (nI_m1 (by omega)), isUp_ok (by omega), bind_s, stores_ok (by omega), bind_s, payloadAt_ok (by omega), bind_s, confirmedAt_ok (by omega), bind_s, hM, s2, show (64 : Int32) = nI 64 from rfl, nI_rem (by omega) (by omega), nI_div (by omega) (by omega), nI_sub1 (by omega), show (64 * (p + 1) + c) / 64 - 1 = p by omega, show (64 * (p + 1) + c) % 64 = c by omega, store_o (by omega) (by omega) he, bind_s, hM, nI_1 i]
    by_cases hu : r (3 + n) = 1
    · rw [if_pos hu, if_neg (show ¬ (1 : Int32) = 0 by decide)]
      by_cases hs : r (819 + 160 * n + 40 * l + e) = 0
      · rw [if_pos hs, if_pos (show (0 : Int32) = 0 from rfl), hih (sR 4 (rKeep r n l e p c) M) (v + 1) (by rw [gR_self]; unfold rSp1; rw [if_pos ⟨hu, hs⟩]), sR_sR, if_pos (show nd r l e n from ⟨hu, hs⟩), Int32.add_assoc, show (1 : Int32) = nI 1 from rfl, nI_add]
      · rw [if_neg hs, if_neg (show ¬ (1 : Int32) = 0 by decide), hih M v (by rw [hM]; unfold rSp1; rw [if_neg (fun q => hs q.2)]), if_neg (show ¬ nd r l e n from fun q => hs q.2), Nat.zero_add]
    · rw [if_neg hu, if_pos (show (0 : Int32) = 0 from rfl), hih M v (by rw [hM]; unfold rSp1; rw [if_neg (fun q => hu q.1)]), if_neg (show ¬ nd r l e n from fun q => hu q.1), Nat.zero_add]
theorem cp_ok {M : Mem} (hp : p ≤ 999) (hc : c ≤ 40) (he : e < 40) (hI : Inv (gR M 4) nc lc) (hl : l < lc) (hS : Sr (gR M 4) l e (64 * (p + 1) + c)) : m_X6_copies 3 (nI l) (nI e) M = some (nI (cSpr l e (frg (gR M 4) l e) p c (vf (gR M 4) l 1) 0 (gR M 4)), sR 4 (rSpr l e (frg (gR M 4) l e) p c (vf (gR M 4) l 1) 0 (gR M 4)) M) := by
  have hL := inv_l hI hl
  unfold m_X6_copies
  rw [fragOf_o hI hl (by omega), bind_s]
  refine (show _ = _ from cp_loop hp hc he (vf (gR M 4) l 1) 0 fuel (gR M 4) M 0 hI hl (by omega) (by have := hL.2.2.1; have := hL.2.1; unfold fuel; omega) rfl hS).trans ?_
  rw [Int32.zero_add]
theorem cp_none_loop {M : Mem} (he : e < 40) (hI : Inv (gR M 4) nc lc) (hl : l < lc) (hs : rSrc (gR M 4) l e (frg (gR M 4) l e) (vf (gR M 4) l 1) 0 = none) {v : Int32} : ∀ (d i g : Nat), i + d = vf (gR M 4) l 1 → d < g → m_X6_copies_L13 3 (nI l) (nI e) g v (nI (frg (gR M 4) l e)) (nI i) M = some (v, M) := by
  have hL := inv_l hI hl
  have hW := hL.2.2.1
  have hE := hL.2.1
  have hof : m_X6_of 3 (nI l) 1 M = some (nI (vf (gR M 4) l 1)) := of_o hI hl (w := 1) (by omega) (by omega)
  have hso := source_ok (M := M) (e := e) hI hl he
  rw [hs] at hso
  intro d
  induction d with
  | zero =>
    intro i g h1 h2
    obtain ⟨g, rfl⟩ : ∃ k, g = k + 1 := ⟨g - 1, by omega⟩
    rw [m_X6_copies_L13_s, hof, bind_s, if_pos (nI_le (by omega) (by omega))]
  | succ d ih =>
    intro i g h1 h2
    obtain ⟨g, rfl⟩ : ∃ k, g = k + 1 := ⟨g - 1, by omega⟩
    rw [m_X6_copies_L13_s, hof, bind_s, if_neg (nI_ge (by omega) (by omega)), writer_o hI hl (frg_lt hL) (by omega) (by omega), bind_s, hso, bind_s, show on1 none = -1 from rfl, if_pos rfl, nI_1 i]
    exact ih (i + 1) g (by omega) (by omega)
theorem cp_none {M : Mem} (he : e < 40) (hI : Inv (gR M 4) nc lc) (hl : l < lc) (hs : rSrc (gR M 4) l e (frg (gR M 4) l e) (vf (gR M 4) l 1) 0 = none) : m_X6_copies 3 (nI l) (nI e) M = some (0, M) := by
  have hL := inv_l hI hl
  unfold m_X6_copies
  rw [fragOf_o hI hl (by omega), bind_s]
  exact cp_none_loop he hI hl hs (vf (gR M 4) l 1) 0 fuel (by omega) (by have := hL.2.2.1; have := hL.2.1; unfold fuel; omega)
theorem rep_both {K : Nat} (hK : K ≤ 40) : ∀ (d e : Nat) (r : Nat → Int32), e + d = K → Inv r nc lc → l < lc → r (2131 + 333 * l + 5) = nI K - 1 → ∃ (s : Int32) (r' : Nat → Int32), Inv r' nc lc ∧
    (∀ M g v, gR M 4 = r → d < g → m_X6_repair_L50 3 (nI l) g v (nI e) M = some (v + s, sR 4 r' M)) ∧
    (∀ M g v, RC 64 r M → d < g → ∃ M', RC 64 r' M' ∧ Fg 64 M M' ∧ m_X3_copyMissingEntries_L15 64 (64 + 27 + 5 * l) g v (nI K - 1) (nI e) M = some (v + s, M')) ∧ Go lc 0 r r' := by
  intro d
  induction d with
  | zero =>
    intro e r he hI hl hla
    have h4 := hI.2.1
    refine ⟨0, r, hI, fun M g v hM hg => ?_, fun M g v hR hg => ⟨M, hR, Fg.rf, ?_⟩, Go.rf⟩
    · obtain ⟨g, rfl⟩ : ∃ k, g = k + 1 := ⟨g - 1, by omega⟩
      rw [m_X6_repair_L50_s, show m_X6_of 3 (nI l) 5 M = _ from of_ok (w := 5) (by omega), bind_s, hM, hla, if_pos ((m1_lt (by omega) (by omega)).mpr (by omega)), Int32.add_zero, ← hM, sR_id]
    · obtain ⟨g, rfl⟩ : ∃ k, g = k + 1 := ⟨g - 1, by omega⟩
      rw [m_X3_copyMissingEntries_L15_s, if_pos ((m1_lt (by omega) (by omega)).mpr (by omega)), Int32.add_zero]
  | succ d ih =>
    intro e r he hI hl hla
    have h8 := hI.1
    have h4 := hI.2.1
    have hL := inv_l hI hl
    have he40 : e < 40 := by omega
    have hlt : ¬ nI K - 1 < nI e := fun q => by
      have := (m1_lt (by omega) (by omega)).mp q
      omega
    cases hs : rSrc r l e (frg r l e) (vf r l 1) 0 with
    | none =>
      obtain ⟨s, r', hI', hr, hc, hg2⟩ := ih (e + 1) r (by omega) hI hl hla
      refine ⟨s, r', hI', fun M g v hM hg => ?_, fun M g v hR hg => ?_, hg2⟩
      · obtain ⟨g, rfl⟩ : ∃ k, g = k + 1 := ⟨g - 1, by omega⟩
        rw [m_X6_repair_L50_s, show m_X6_of 3 (nI l) 5 M = _ from of_ok (w := 5) (by omega), bind_s, hM, hla, if_neg hlt, cp_none he40 (by rw [hM]; exact hI) hl (by rw [hM]; exact hs), bind_s, nI_1, Int32.add_zero]
        exact hr M g v hM (by omega)
      · obtain ⟨g, rfl⟩ : ∃ k, g = k + 1 := ⟨g - 1, by omega⟩
        obtain ⟨M', R1, F1, e1⟩ := hc M g v hR (by omega)
        refine ⟨M', R1, F1, ?_⟩
        rw [m_X3_copyMissingEntries_L15_s, if_neg hlt, first_ok hR hI hl (rc_l hR hI hl) he40, bind_s, hs, show cpy1 r l e none = -1 from rfl, if_pos rfl, nI_1]
        exact e1
    | some n =>
      obtain ⟨hu, hv0, j, hj⟩ := rSrc_some _ _ hs
      have hn : n < nc := by
        rw [hj]
        exact ws_lt hL (frg_lt hL)
      rcases sc_at (inv_n hI hn) (show l < 4 by omega) he40 with hz | ⟨p, c, hp, hc, hv⟩
      · exact absurd hz hv0
      · obtain ⟨hI1, hls, -⟩ := spr_I (p := p) (c := c) hp hc he40 (vf r l 1) 0 r hI hl (frg_lt (e := e) hL)
        obtain ⟨s, r', hI', hr, hcl, hg2⟩ := ih (e + 1) _ (by omega) hI1 hl ((hls _ (by omega)).trans hla)
        have hg1 : Go lc 0 r (rSpr l e (frg r l e) p c (vf r l 1) 0 r) := ⟨fun hY => by
          obtain ⟨a, b⟩ := hY.1 n l e (by omega) (by omega) he40 hv0
          rw [hv, cl_nI (by omega)] at b
          exact (spr_Go (c := c) hp he40 (by omega) (vf r l 1) 0 r hI hl (frg_lt (e := e) hL) a).1 hY, fun k hk => ⟨k, (spr_2 he40 _ _ _).trans hk, by omega⟩, spr_Ke hI hl hp hc he40 (frg_lt (e := e) hL)⟩
        refine ⟨nI (cSpr l e (frg r l e) p c (vf r l 1) 0 r) + s, r', hI', fun M g v hM hg => ?_, fun M g v hR hg => ?_, hg1.tr hg2⟩
        · obtain ⟨g, rfl⟩ : ∃ k, g = k + 1 := ⟨g - 1, by omega⟩
          have hcp := cp_ok (M := M) (e := e) hp hc he40 (by rw [hM]; exact hI) hl (by rw [hM]; exact ⟨n, hs, hv⟩)
          rw [hM] at hcp
          rw [m_X6_repair_L50_s, show m_X6_of 3 (nI l) 5 M = _ from of_ok (w := 5) (by omega), bind_s, hM, hla, if_neg hlt, hcp, bind_s, nI_1]
          refine (hr _ g _ gR_self (by omega)).trans ?_
          rw [sR_sR, Int32.add_assoc]
        · obtain ⟨g, rfl⟩ : ∃ k, g = k + 1 := ⟨g - 1, by omega⟩
          obtain ⟨N, R1, F1, e1⟩ := spread_ok (p := p) (c := c) hp hc he40 hI hl hR
          obtain ⟨M', R2, F2, e2⟩ := hcl N g (v + nI (cSpr l e (frg r l e) p c (vf r l 1) 0 r)) R1 (by omega)
          refine ⟨M', R2, F1.tr F2, ?_⟩
          have hcp : cpy1 r l e (some n) = nI (pz l e c p) := by
            show stc l e (r (819 + 160 * n + 40 * l + e)) = _
            rw [hv, stc_v hp hc]
          rw [m_X3_copyMissingEntries_L15_s, if_neg hlt, first_ok hR hI hl (rc_l hR hI hl) he40, bind_s, hs, hcp, if_neg (nI_m1 (pz_lt (by omega) (by omega) (by omega) (by omega))), e1, bind_s, nI_1, ← Int32.add_assoc]
          exact e2
end REP
