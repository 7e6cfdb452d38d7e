/-! an entry is spread over its write set -/
/-- a node that is up and lacks the entry -/
abbrev nd (r : Nat → Int32) (l e n : Nat) : Prop := r (3 + n) = 1 ∧ r (819 + 160 * n + 40 * l + e) = 0
def rSp1 (r : Nat → Int32) (n l e p c : Nat) : Nat → Int32 := if nd r l e n then rKeep r n l e p c else r
def rSpr (l e f p c : Nat) : Nat → Nat → (Nat → Int32) → Nat → Int32
  | 0, _, r => r
  | d + 1, i, r => rSpr l e f p c d (i + 1) (rSp1 r (mbf r l f ((e + i) % vf r l 0)) l e p c)
def cSpr (l e f p c : Nat) : Nat → Nat → (Nat → Int32) → Nat
  | 0, _, _ => 0
  | d + 1, i, r => (if nd r l e (mbf r l f ((e + i) % vf r l 0)) then 1 else 0) + cSpr l e f p c d (i + 1) (rSp1 r (mbf r l f ((e + i) % vf r l 0)) l e p c)
theorem rSpr_s {l e f p c d i : Nat} {r : Nat → Int32} : rSpr l e f p c (d + 1) i r = rSpr l e f p c d (i + 1) (rSp1 r (mbf r l f ((e + i) % vf r l 0)) l e p c) := rfl
theorem cSpr_s {l e f p c d i : Nat} {r : Nat → Int32} : cSpr l e f p c (d + 1) i r = (if nd r l e (mbf r l f ((e + i) % vf r l 0)) then 1 else 0) + cSpr l e f p c d (i + 1) (rSp1 r (mbf r l f ((e + i) % vf r l 0)) l e p c) := rfl
section SPR
variable {nc lc l e f p c n : Nat} {r : Nat → Int32}
theorem sp1_ls (hn : n < 8) (hl : l < 4) (he : e < 40) : Ls r (rSp1 r n l e p c) := fun i hi => by
  unfold rSp1
  split
  · exact rKeep_l hl he (by unfold nIx; omega)
  · rfl
theorem sp1_up {k : Nat} (hk : k < 8) (hn : n < 8) (hl : l < 4) (he : e < 40) : rSp1 r n l e p c (3 + k) = r (3 + k) := by
  unfold rSp1
  split
  · exact upd_n (by omega)
  · rfl
theorem sp1_I (hI : Inv r nc lc) (hn : n < nc) (hl : l < 4) (he : e < 40) (hp : p ≤ 999) (hc : c ≤ 40) : Inv (rSp1 r n l e p c) nc lc := by
  unfold rSp1
  split
  · exact keep_I hI hn hl he hp hc
  · exact hI
theorem spr_I (hp : p ≤ 999) (hc : c ≤ 40) (he : e < 40) : ∀ (d i : Nat) (r : Nat → Int32), Inv r nc lc → l < lc → f < vf r l 6 → Inv (rSpr l e f p c d i r) nc lc ∧ Ls r (rSpr l e f p c d i r) ∧ ∀ k, k < 8 → rSpr l e f p c d i r (3 + k) = r (3 + k) := by
  intro d
  induction d with
  | zero => exact fun i r hI _ _ => ⟨hI, fun _ _ => rfl, fun _ _ => rfl⟩
  | succ d ih =>
    intro i r hI hl hf
    have h8 := hI.1
    have h4 := hI.2.1
    have hn := ws_lt (e := e) (i := i) (inv_l hI hl) hf
    have hls := sp1_ls (r := r) (n := mbf r l f ((e + i) % vf r l 0)) (l := l) (e := e) (p := p) (c := c) (by omega) (by omega) he
    obtain ⟨h1, h2, h3⟩ := ih (i + 1) _ (sp1_I (p := p) (c := c) hI hn (show l < 4 by omega) he hp hc) hl (by rw [lsv hls]; exact hf)
    rw [rSpr_s]
    exact ⟨h1, hls.tr h2, fun k hk => (h3 k hk).trans (sp1_up hk (by omega) (by omega) he)⟩
theorem spr_2 (he : e < 40) : ∀ (d i : Nat) (r : Nat → Int32), rSpr l e f p c d i r 2 = r 2 := by
  intro d
  induction d with
  | zero => exact fun _ _ => rfl
  | succ d ih =>
    intro i r
    rw [rSpr_s, ih]
    unfold rSp1
    split
    · exact upd_n (by omega)
    · rfl
theorem spr_Ke (hI : Inv r nc lc) (hl : l < lc) (hp : p ≤ 999) (hc : c ≤ 40) (he : e < 40) (hf : f < vf r l 6) {d i : Nat} : Ke lc r (rSpr l e f p c d i r) := by
  obtain ⟨-, h2, h3⟩ := spr_I (p := p) (c := c) hp hc he d i r hI hl hf
  exact ⟨h3, fun k _ => lsv h2⟩
theorem spr_Go (hp : p ≤ 999) (he : e < 40) (hce : c ≤ e) : ∀ (d i : Nat) (r : Nat → Int32), Inv r nc lc → l < lc → f < vf r l 6 → e < vf r l 4 → Go lc 0 r (rSpr l e f p c d i r) := by
  intro d
  induction d with
  | zero => exact fun _ _ _ _ _ _ => Go.rf
  | succ d ih =>
    intro i r hI hl hf he4
    have h8 := hI.1
    have h4 := hI.2.1
    have hn := ws_lt (e := e) (i := i) (inv_l hI hl) hf
    have hls := sp1_ls (r := r) (n := mbf r l f ((e + i) % vf r l 0)) (l := l) (e := e) (p := p) (c := c) (by omega) (by omega) he
    rw [rSpr_s]
    have h1 : Go lc 0 r (rSp1 r (mbf r l f ((e + i) % vf r l 0)) l e p c) := by
      unfold rSp1
      split
      · exact Go.keep hI (by omega) (by omega) he hp (fun _ => ⟨he4, hce⟩)
      · exact Go.rf
    exact h1.tr (ih (i + 1) _ (sp1_I (p := p) (c := c) hI hn (show l < 4 by omega) he hp (by omega)) hl (by rw [lsv hls]; exact hf) (by rw [lsv hls]; exact he4))
/-- the class's loop -/
theorem spr_cls (hp : p ≤ 999) (hc : c ≤ 40) (he : e < 40) : ∀ (d i g : Nat) (r : Nat → Int32) (M : Mem) (v : Int32), Inv r nc lc → l < lc → f < vf r l 6 → i + d = vf r l 1 → d < g → RC 64 r M → ∃ M', RC 64 (rSpr l e f p c d i r) M' ∧ Fg 64 M M' ∧ m_X3_spread_L13 64 (64 + 27 + 5 * l) (nI e) (nI (pz l e c p)) g v (nI f) (nI i) M = some (v + nI (cSpr l e f p c d i r), M') := by
  intro d
  induction d with
  | zero =>
    intro i g r M v hI hl hf hi hg hR
    obtain ⟨g, rfl⟩ : ∃ k, g = k + 1 := ⟨g - 1, by omega⟩
    have hL := inv_l hI hl
    have hW := hL.2.2.1
    have hE := hL.2.1
    have h2 : gF M (64 + 27 + 5 * l) 2 = nI (vf r l 1) := by rw [(rc_l hR hI hl).2.2.1, hL.1 1 (by omega) (by omega)]
    refine ⟨M, hR, Fg.rf, ?_⟩
    rw [m_X3_spread_L13_s, h2, if_pos (nI_le (by omega) (by omega))]
    exact congrArg some (congrArg (·, M) (Int32.add_zero _).symm)
  | succ d ih =>
    intro i g r M v hI hl hf hi hg hR
    obtain ⟨g, rfl⟩ : ∃ k, g = k + 1 := ⟨g - 1, by omega⟩
    have h8 := hI.1
    have h4 := hI.2.1
    have hL := inv_l hI hl
    have hC := rc_l hR hI hl
    have hW := hL.2.2.1
    have hE := hL.2.1
    have h2 : gF M (64 + 27 + 5 * l) 2 = nI (vf r l 1) := by rw [hC.2.2.1, hL.1 1 (by omega) (by omega)]
    have hn := ws_lt (e := e) (i := i) hL hf
    have hws := wsn_ok (M := M) (i := i) (e := e) hC hL hf (by omega) (by omega)
    rw [rSpr_s, cSpr_s]
    generalize mbf r l f ((e + i) % vf r l 0) = n at hn hws ⊢
    have hls := sp1_ls (r := r) (n := n) (l := l) (e := e) (p := p) (c := c) (by omega) (by omega) he
    have hI1 := sp1_I (p := p) (c := c) hI hn (show l < 4 by omega) he hp hc
    have hih := fun M' v' R' => ih (i + 1) g (rSp1 r n l e p c) M' v' hI1 hl (by rw [lsv hls]; exact hf) (by rw [lsv hls]; omega) (by omega) R'
    rw [m_X3_spread_L13_s, h2, if_neg (nI_ge (by omega) (by omega)), hws, bind_s, node_ok hR hI hn, bind_s, on_sm, (rc_n hR hI hn).1, hC.1, holds_ok (rc_n hR hI hn) (inv_n hI hn) (by omega) he, bind_s, nI_1]
    rcases up01 hI hn with hu | hu
    · rw [if_pos hu, if_neg (show ¬ nd r l e n from fun q => absurd (hu.symm.trans q.1) (by decide)), Nat.zero_add]
      exact hih M v (by unfold rSp1; rw [if_neg (fun q => absurd (hu.symm.trans q.1) (by decide))]; exact hR)
    · rw [if_neg (show ¬ r (3 + n) = 0 from fun q => absurd (hu.symm.trans q) (by decide))]
      by_cases hs : r (819 + 160 * n + 40 * l + e) = 0
      · obtain ⟨N, e1, R1, F1⟩ := keep_R (p := p) (c := c) (by omega) hR hI hn (show l < 4 by omega) he hp hc
        obtain ⟨M', R2, F2, e2⟩ := hih N (v + 1) (by unfold rSp1; rw [if_pos ⟨hu, hs⟩]; exact R1)
        refine ⟨M', R2, F1.tr F2, ?_⟩
        rw [if_pos hs, if_pos (show (0 : Int32) = 0 from rfl), e1, bind_s, e2, if_pos (show nd r l e n from ⟨hu, hs⟩), Int32.add_assoc, show (1 : Int32) = nI 1 from rfl, nI_add]
      · rw [if_neg hs, if_neg (show ¬ (1 : Int32) = 0 by decide), if_neg (show ¬ nd r l e n from fun q => hs q.2), Nat.zero_add]
        exact hih M v (by unfold rSp1; rw [if_neg (fun q => hs q.2)]; exact hR)
theorem spread_ok {M : Mem} (hp : p ≤ 999) (hc : c ≤ 40) (he : e < 40) (hI : Inv r nc lc) (hl : l < lc) (hR : RC 64 r M) : ∃ M', RC 64 (rSpr l e (frg r l e) p c (vf r l 1) 0 r) M' ∧ Fg 64 M M' ∧ m_X3_spread 64 (64 + 27 + 5 * l) (nI e) (nI (pz l e c p)) M = some (nI (cSpr l e (frg r l e) p c (vf r l 1) 0 r), M') := by
  have hL := inv_l hI hl
  obtain ⟨M', R1, F1, e1⟩ := spr_cls (l := l) (f := frg r l e) hp hc he (vf r l 1) 0 fuel r M 0 hI hl (frg_lt hL) (by omega) (by have := hL.2.2.1; have := hL.2.1; unfold fuel; omega) hR
  refine ⟨M', R1, F1, ?_⟩
  unfold m_X3_spread
  rw [cfrag_ok (rc_l hR hI hl) hL (by omega), bind_s]
  refine (show _ = _ from e1).trans ?_
  rw [Int32.zero_add]
/-- the reference's loop in a recovery: the confirmed entry is e - 1 -/
theorem spr_rec (hp : p ≤ 999) (he : e < 40) : ∀ (d i g : Nat) (r : Nat → Int32) (M : Mem), Inv r nc lc → l < lc → f < vf r l 6 → i + d = vf r l 1 → d < g → gR M 4 = r → m_X6_recoverEntry_L11 3 (nI l) (nI e) (nI p) g (nI f) (nI i) M = some (sR 4 (rSpr l e f p e d i r) M) := by
  intro d
  induction d with
  | zero =>
    intro i g r M hI hl hf hi hg hM
    obtain ⟨g, rfl⟩ : ∃ k, g = k + 1 := ⟨g - 1, by omega⟩
    have hL := inv_l hI hl
    have hW := hL.2.2.1
    have hE := hL.2.1
    have hof := of_o (M := M) (w := 1) (by rw [hM]; exact hI) hl (by omega) (by omega)
    rw [hM] at hof
    rw [m_X6_recoverEntry_L11_s, show m_X6_of 3 (nI l) 1 M = _ from hof, bind_s, if_pos (nI_le (by omega) (by omega))]
    show some M = some (sR 4 r M)
    rw [← hM, sR_id]
  | succ d ih =>
    intro i g r M hI hl hf hi hg hM
    obtain ⟨g, rfl⟩ : ∃ k, g = k + 1 := ⟨g - 1, by omega⟩
    have h8 := hI.1
    have h4 := hI.2.1
    have hL := inv_l hI hl
    have hW := hL.2.2.1
    have hE := hL.2.1
    have hIM : Inv (gR M 4) nc lc := by rw [hM]; exact hI
    have hof := of_o (M := M) (w := 1) hIM hl (by omega) (by omega)
    rw [hM] at hof
    have hwr := writer_o (M := M) (f := f) (e := e) (i := i) hIM hl (by rw [hM]; exact hf) (by omega) (by omega)
    rw [hM] at hwr
    have hn := ws_lt (e := e) (i := i) hL hf
    rw [rSpr_s]
    generalize mbf r l f ((e + i) % vf r l 0) = n at hn hwr ⊢
    have hls := sp1_ls (r := r) (n := n) (l := l) (e := e) (p := p) (c := e) (by omega) (by omega) he
    have hI1 := sp1_I (p := p) (c := e) hI hn (show l < 4 by omega) he hp (by omega)
    have hih := fun M' R' => ih (i + 1) g (rSp1 r n l e p e) M' hI1 hl (by rw [lsv hls]; exact hf) (by rw [lsv hls]; omega) (by omega) R'
    rw [m_X6_recoverEntry_L11_s, show m_X6_of 3 (nI l) 1 M = _ from hof, bind_s, if_neg (nI_ge (by omega) (by omega)), hwr, bind_s, isUp_ok (by omega), bind_s, stores_ok (by omega), bind_s, store_o (by omega) (by omega) he, bind_s, hM, nI_1]
    by_cases hu : r (3 + n) = 1
    · rw [if_pos hu, if_neg (show ¬ (1 : Int32) = 0 by decide)]
      by_cases hs : r (819 + 160 * n + 40 * l + e) = 0
      · rw [if_pos hs, if_pos (show (0 : Int32) = 0 from rfl), hih (sR 4 (rKeep r n l e p e) M) (by rw [gR_self]; unfold rSp1; rw [if_pos ⟨hu, hs⟩]), sR_sR]
      · rw [if_neg hs, if_neg (show ¬ (1 : Int32) = 0 by decide), hih M (by rw [hM]; unfold rSp1; rw [if_neg (fun q => hs q.2)])]
    · rw [if_neg hu, if_pos (show (0 : Int32) = 0 from rfl), hih M (by rw [hM]; unfold rSp1; rw [if_neg (fun q => hu q.1)])]
theorem recE_ok {M : Mem} (hp : p ≤ 999) (he : e < 40) (hI : Inv (gR M 4) nc lc) (hl : l < lc) : m_X6_recoverEntry 3 (nI l) (nI e) (nI p) M = some (sR 4 (rSpr l e (frg (gR M 4) l e) p e (vf (gR M 4) l 1) 0 (gR M 4)) M) := by
  have hL := inv_l hI hl
  unfold m_X6_recoverEntry
  rw [fragOf_o hI hl (by omega), bind_s]
  exact spr_rec hp he (vf (gR M 4) l 1) 0 fuel (gR M 4) M hI hl (frg_lt hL) (by omega) (by have := hL.2.2.1; have := hL.2.1; unfold fuel; omega) rfl
/-- the source stays a source of the same -/
theorem src_keep {v : Nat} (hv : v = 64 * (p + 1) + c) (hv2 : v < 2147483648) (hn : n < 8) (hl : l < 4) (he : e < 40) (hm : ∀ i, mbf r l f ((e + i) % vf r l 0) < 8) : ∀ (d i n0 : Nat), rSrc r l e f d i = some n0 → r (819 + 160 * n0 + 40 * l + e) = nI v → ∃ n1, rSrc (rKeep r n l e p c) l e f d i = some n1 ∧ rKeep r n l e p c (819 + 160 * n1 + 40 * l + e) = nI v := by
  have hls : Ls r (rKeep r n l e p c) := fun i hi => rKeep_l hl he (by unfold nIx; omega)
  intro d
  induction d with
  | zero => intro i n0 h; cases h
  | succ d ih =>
    intro i n0 h h0
    rw [rSrc_s] at h ⊢
    have e0 : mbf (rKeep r n l e p c) l f ((e + i) % vf (rKeep r n l e p c) l 0) = mbf r l f ((e + i) % vf r l 0) := by
      rw [lsv hls]
      exact lsv hls
    rw [e0]
    have hm8 := hm i
    generalize mbf r l f ((e + i) % vf r l 0) = m at h hm8 ⊢
    have hup : rKeep r n l e p c (3 + m) = r (3 + m) := upd_n (by omega)
    rw [hup]
    by_cases hmn : m = n
    · have hcell : rKeep r n l e p c (819 + 160 * m + 40 * l + e) = nI v := by
        rw [hmn, hv]
        exact upd_s
      by_cases hu : r (3 + m) = 1
      · rw [if_pos ⟨hu, by rw [hcell]; exact nI_ne0 (by omega) hv2⟩]
        exact ⟨m, rfl, hcell⟩
      · rw [if_neg (fun q => hu q.1)]
        rw [if_neg (fun q => hu q.1)] at h
        exact ih (i + 1) n0 h h0
    · have hcell : rKeep r n l e p c (819 + 160 * m + 40 * l + e) = r (819 + 160 * m + 40 * l + e) := upd_n (by omega)
      rw [hcell]
      by_cases hq : r (3 + m) = 1 ∧ r (819 + 160 * m + 40 * l + e) ≠ 0
      · rw [if_pos hq]
        rw [if_pos hq] at h
        have hmm : m = n0 := Option.some.inj h
        exact ⟨m, rfl, by rw [hcell, hmm]; exact h0⟩
      · rw [if_neg hq]
        rw [if_neg hq] at h
        exact ih (i + 1) n0 h h0
end SPR
