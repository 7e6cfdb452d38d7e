/-! a node takes a position; repair's first half -/
def rMb (r : Nat → Int32) (l f p n : Nat) : Nat → Int32 := upd r (2131 + 333 * l + (128 + 5 * f + p)) (nI n)
section MB
variable {M : Mem} {B a nc lc l f p n : Nat} {r : Nat → Int32}
theorem mb_o {w : Nat} (h : w ≠ 128 + 5 * f + p) : rMb r l f p n (2131 + 333 * l + w) = r (2131 + 333 * l + w) := upd_n (by omega)
theorem mb_v {w : Nat} (h : w ≠ 128 + 5 * f + p) : vf (rMb r l f p n) l w = vf r l w := vf_o (mb_o h)
theorem mb_s (hn : n < 8) : mbf (rMb r l f p n) l f p = n := vf_is upd_s (by omega)
theorem mb_m {g q : Nat} (hp : p < 5) (hq : q < 5) (h : ¬ (g = f ∧ q = p)) : mbf (rMb r l f p n) l g q = mbf r l g q := mb_v (by omega)
theorem LI.mb (hI : LI r nc l) (h8 : nc ≤ 8) (hf : f < vf r l 6) (hp : p < vf r l 0) (hn : n < nc) (hb : ∀ q, q < vf r l 0 → q ≠ p → mbf r l f q ≠ n) : LI (rMb r l f p n) nc l := by
  have h0 := mb_v (r := r) (l := l) (f := f) (p := p) (n := n) (w := 0) (by omega)
  have h1 := mb_v (r := r) (l := l) (f := f) (p := p) (n := n) (w := 1) (by omega)
  have h2 := mb_v (r := r) (l := l) (f := f) (p := p) (n := n) (w := 2) (by omega)
  have h3 := mb_v (r := r) (l := l) (f := f) (p := p) (n := n) (w := 3) (by omega)
  have h4 := mb_v (r := r) (l := l) (f := f) (p := p) (n := n) (w := 4) (by omega)
  have h6 := mb_v (r := r) (l := l) (f := f) (p := p) (n := n) (w := 6) (by omega)
  obtain ⟨a0, a1, a2, a3, a4, a5, a6, a7, a8, a9, b0, b1, b2, b3, b4, k, hk, b5⟩ := hI
  have va : ∀ g, g < 41 → vf (rMb r l f p n) l (87 + g) = vf r l (87 + g) := fun g hg => mb_v (by omega)
  unfold LI
  rw [h0, h1, h2, h3, h4, h6, mb_v (w := 87) (by omega), va _ (by omega)]
  refine ⟨fun w hw hw5 => ?_, a1, a2, a3, a4, a5, a6, a7, fun g hg => ?_, a9, fun g q hg hq => ?_, fun g q s hg hq hs => ?_, fun e he => ?_, fun e he => ?_, fun z e he => ?_, k, hk, ?_⟩
  · by_cases hq : w = 128 + 5 * f + p
    · rw [hq, show vf (rMb r l f p n) l (128 + 5 * f + p) = n from mb_s (by omega)]
      exact upd_s
    · rw [mb_o hq, mb_v hq]; exact a0 w hw hw5
  · rw [va g (by omega), va (g + 1) (by omega)]; exact a8 g hg
  · by_cases hx : g = f ∧ q = p
    · rw [hx.1, hx.2, mb_s (by omega)]; exact hn
    · rw [mb_m (by omega) (by omega) hx]; exact b0 g q hg hq
  · by_cases hx : g = f ∧ q = p
    · rw [hx.1, hx.2, mb_s (by omega), mb_m (by omega) (by omega) (by omega)]
      exact fun z => hb s hs (by omega) z.symm
    · by_cases hy : g = f ∧ s = p
      · rw [hy.1, hy.2, mb_s (by omega), mb_m (by omega) (by omega) (by omega)]
        exact hb q (by omega) (by omega)
      · rw [mb_m (by omega) (by omega) hx, mb_m (by omega) (by omega) hy]
        exact b1 g q s hg hq hs
  · rw [mb_v (w := 47 + e) (by omega)]; exact b2 e he
  · rw [mb_v (w := 7 + e) (by omega)]; exact b3 e he
  · rw [mb_v (w := 47 + e) (by omega)]; exact b4 z e he
  · rw [mb_o (w := 5) (by omega)]; exact b5
theorem CL.mb (hC : CL M a r l) (hI : LI r nc l) (hf : f < vf r l 6) (hp : p < vf r l 0) : CL (sR (a + 4) (upd (gR M (a + 4)) (5 * f + p) (nI n)) M) a (rMb r l f p n) l := by
  have h41 := hI.2.2.2.2.2.2.1.2
  have hE := hI.2.1
  have h40 := hI.2.2.2.2.2.1
  obtain ⟨h0, h1, h2, h3, h4, h5, h6, h7, h8, h9, h10, h11⟩ := hC
  refine ⟨h0, by rw [gF_sR, h1, mb_o (by omega)], by rw [gF_sR, h2, mb_o (by omega)], by rw [gF_sR, h3, mb_o (by omega)], by rw [gF_sR, h4, mb_o (by omega)], by rw [gF_sR, h5, mb_o (by omega)], by rw [gF_sR, h6, mb_o (by omega)], by rw [gF_sR, h7, mb_o (by omega)], fun k hk hk40 => ?_, fun k hk hk40 => ?_, fun g hg hg41 => ?_, fun g q hg hq hg41 hq5 => ?_⟩
  · rw [mb_v (by omega)] at hk
    rw [gR_ne (by omega), h8 k hk hk40, mb_o (by omega)]
  · rw [mb_v (by omega)] at hk
    rw [gR_ne (by omega), h9 k hk hk40, mb_o (by omega)]
  · rw [mb_v (by omega)] at hg
    rw [gR_ne (by omega), h10 g hg hg41, mb_o (by omega)]
  · rw [mb_v (by omega)] at hg hq
    rw [gR_self]
    by_cases hx : g = f ∧ q = p
    · rw [hx.1, hx.2, upd_s]
      exact upd_s.symm
    · rw [upd_n (by omega), h11 g q hg hq hg41 hq5, mb_o (by omega)]
theorem mb_l {i : Nat} (hp : p < 5) (hf : f < 41) (h : ¬ lIx l i) : rMb r l f p n i = r i := upd_n (by unfold lIx at h; omega)
theorem mb_I (hI : Inv r nc lc) (hl : l < lc) (hf : f < vf r l 6) (hp : p < vf r l 0) (hn : n < nc) (hb : ∀ q, q < vf r l 0 → q ≠ p → mbf r l f q ≠ n) : Inv (rMb r l f p n) nc lc := by
  have hL := inv_l hI hl
  have h41 := hL.2.2.2.2.2.2.1.2
  have hE := hL.2.1
  exact hI.led hl (fun i hi => mb_l (by omega) (by omega) hi) (Nat.le_of_eq (mb_v (by omega)).symm) (hL.mb hI.1 hf hp hn hb)
theorem mb_R (hR : RC 64 r M) (hI : Inv r nc lc) (hl : l < lc) (hf : f < vf r l 6) (hp : p < vf r l 0) : ∃ M', m_X0_setNode (64 + 27 + 5 * l) (nI f) (nI p) (nI n) M = some M' ∧ RC 64 (rMb r l f p n) M' ∧ Fg 64 M M' := by
  have hL := inv_l hI hl
  have h4 := hI.2.1
  have h41 := hL.2.2.2.2.2.2.1.2
  have hE := hL.2.1
  exact ⟨_, setN_ok (by omega) (by omega), RC.led hR hI hl (Fc.rf.sR (by omega)) (fun i hi => mb_l (by omega) (by omega) hi) ((rc_l hR hI hl).mb hL hf hp), Fg.rf.sR (by omega)⟩
/-- what a choice for an ensemble gives -/
theorem ch_new {E : Nat} (h : rCh r (orB (mbf r l f) E) nc = some n) : n < nc ∧ ∀ q, q < E → mbf r l f q ≠ n := by
  obtain ⟨h1, -, h2⟩ := rCh_lt nc n h
  refine ⟨h1, fun q hq hx => ?_⟩
  rw [orB_bit.mpr ⟨q, hq, hx⟩] at h2
  cases h2
/-- the ledger's cells below its members, and the counts -/
def Lm (r r' : Nat → Int32) (l : Nat) : Prop := ∀ w, w < 128 → r' (2131 + 333 * l + w) = r (2131 + 333 * l + w)
theorem Lm.v {r' : Nat → Int32} {w : Nat} (h : Lm r r' l) (hw : w < 128) : vf r' l w = vf r l w := vf_o (h w hw)
/-- all cells but the ledger's members -/
def Lo (r r' : Nat → Int32) (l : Nat) : Prop := ∀ i, ¬ (2259 + 333 * l ≤ i ∧ i < 2464 + 333 * l) → r' i = r i
/-- a closed ledger's members don't matter -/
theorem Y.mem {r' : Nat → Int32} (hI : Inv r nc lc) (hl : l < lc) (h3 : vf r l 3 = 2) (h : Lo r r' l) (hY : Y r lc) : Y r' lc ∧ ∀ k, k < lc → fl r k ≤ fl r' k := by
  have h4 := hI.2.1
  have hL := inv_l hI hl
  have h40 := hL.2.2.2.2.2.1
  have hv : ∀ w, w < 128 → vf r' l w = vf r l w := fun w hw => vfo (h _ (by omega))
  have hc : rCf r' l = rCf r l := rCf_of (hv 2 (by omega)) (hv 4 (by omega)) (fun j hj => hv (47 + j) (by omega))
  have h5 : r' (2131 + 333 * l + 5) = r (2131 + 333 * l + 5) := h _ (by omega)
  have key : ∀ k, k < lc → YL r' k ∧ fl r k ≤ fl r' k := fun k hk => by
    by_cases hkl : k = l
    · subst hkl
      refine ⟨⟨fun q => absurd ((hv 3 (by omega)).trans h3) q, fun _ => ?_⟩, ?_⟩
      · obtain ⟨j, a, b, d⟩ := (hY.2.2 k hk).2 h3
        exact ⟨j, h5.trans a, by rw [hc]; exact b, by rw [hv 4 (by omega)]; exact d⟩
      · unfold fl
        rw [hv 3 (by omega), h5, hc]
        exact Nat.le_refl _
    · exact YL.congr (inv_l hI hk) (fun w _ => h _ (by omega)) (fun n e _ _ q => by rw [h _ (by omega)]; exact q) (hY.2.2 k hk)
  refine ⟨⟨fun n' l' e' hn' hl' he' hs => ?_, fun n' i hn' hi h100 => ?_, fun k hk => (key k hk).1⟩, fun k hk => (key k hk).2⟩
  · rw [h _ (by omega)] at hs ⊢
    rw [vfo (h _ (by omega))]
    exact hY.1 n' l' e' hn' hl' he' hs
  · rw [h _ (by omega)] at hi
    rw [h _ (by omega)]
    exact hY.2.1 n' i hn' hi h100
theorem rd_in (hf0 : f < 41) : ∀ (d k : Nat) (r : Nat → Int32), Inv r nc lc → l < lc → f < vf r l 6 → k + d = vf r l 0 → ∃ r', Inv r' nc lc ∧ (Lm r r' l ∧ Lo r r' l) ∧
    (∀ M g k2, gR M 4 = r → d < g → m_X6_replaceDowns_L15 3 (nI l) k2 g (nI f) (nI k) M = k2 (nI f + 1) (sR 4 r' M)) ∧
    ∀ M g k2, RC 64 r M → d < g → ∃ M', RC 64 r' M' ∧ Fg 64 M M' ∧ m_X3_replaceDownNodes_L12 64 (64 + 27 + 5 * l) k2 g (nI f) (nI k) M = k2 (nI f + 1) M' := by
  intro d
  induction d with
  | zero =>
    intro k r hI hl hf hk
    have hL := inv_l hI hl
    have hE := hL.2.1
    refine ⟨r, hI, ⟨fun _ _ => rfl, fun _ _ => rfl⟩, fun M g k2 hM hg => ?_, fun M g k2 hR hg => ⟨M, hR, Fg.rf, ?_⟩⟩
    · obtain ⟨g, rfl⟩ : ∃ k, g = k + 1 := ⟨g - 1, by omega⟩
      have hof := of_o (M := M) (w := 0) (by rw [hM]; exact hI) hl (by omega) (by omega)
      rw [hM] at hof
      rw [m_X6_replaceDowns_L15_s, show m_X6_of 3 (nI l) 0 M = _ from hof, bind_s, if_pos (nI_le (by omega) (by omega)), ← hM, sR_id]
    · obtain ⟨g, rfl⟩ : ∃ k, g = k + 1 := ⟨g - 1, by omega⟩
      have h1 : gF M (64 + 27 + 5 * l) 1 = nI (vf r l 0) := by rw [(rc_l hR hI hl).2.1, hL.1 0 (by omega) (by omega)]
      rw [m_X3_replaceDownNodes_L12_s, h1, if_pos (nI_le (by omega) (by omega))]
  | succ d ih =>
    intro k r hI hl hf hk
    have hL := inv_l hI hl
    have h8 := hI.1
    have h4 := hI.2.1
    have hE := hL.2.1
    have hmm := hL.2.2.2.2.2.2.2.2.2.2.1
    have hn : mbf r l f k < nc := hmm f k hf (by omega)
    have hS : orB (mbf r l f) (vf r l 0) < 256 := orB_lt (fun i hi => Nat.lt_of_lt_of_le (hmm f i hf hi) h8)
    have hofM : ∀ M, gR M 4 = r → m_X6_of 3 (nI l) 0 M = some (nI (vf r l 0)) ∧ m_X6_memberOf 3 (nI l) (nI f) (nI k) M = some (nI (mbf r l f k)) ∧ m_X6_isUp 3 (nI (mbf r l f k)) M = some (if r (3 + mbf r l f k) = 1 then 1 else 0) ∧ m_X6_ensemble 3 (nI l) (nI f) M = some (nI (orB (mbf r l f) (vf r l 0))) ∧ m_X6_choose 3 (nI (orB (mbf r l f) (vf r l 0))) M = some (on1 (rCh r (orB (mbf r l f) (vf r l 0)) nc)) := fun M hM => by
      subst hM
      exact ⟨of_o (w := 0) hI hl (by omega) (by omega), by rw [memberOf_ok (by omega), hL.1 (128 + 5 * f + k) (by omega) (by omega)], isUp_ok (by omega), ens_ok (by omega) hf0 hL.1 hE.2 (fun p hp => Nat.lt_of_lt_of_le (hmm f p hf hp) h8), choose_ok hS hI.2.2.1 h8⟩
    have hcM : ∀ M, RC 64 r M → gF M (64 + 27 + 5 * l) 1 = nI (vf r l 0) ∧ m_X0_nodeAt (64 + 27 + 5 * l) (nI f) (nI k) M = some (nI (mbf r l f k)) ∧ m_X3_isUp 64 (nI (mbf r l f k)) M = some (r (3 + mbf r l f k)) ∧ m_X0_ensembleMask (64 + 27 + 5 * l) (nI f) M = some (nI (orB (mbf r l f) (vf r l 0))) ∧ m_X3_choose 64 (nI (orB (mbf r l f) (vf r l 0))) M = some (on1 (rCh r (orB (mbf r l f) (vf r l 0)) nc)) := fun M hR =>
      ⟨by rw [(rc_l hR hI hl).2.1, hL.1 0 (by omega) (by omega)], nodeAt_ok (rc_l hR hI hl) hL hf (by omega), cisUp_ok hR hI hn, ensM_ok (rc_l hR hI hl) hL h8 hf, cchoose_ok hR hI hS⟩
    have hskip : (r (3 + mbf r l f k) = 1 ∨ rCh r (orB (mbf r l f) (vf r l 0)) nc = none) → ∃ r', Inv r' nc lc ∧ (Lm r r' l ∧ Lo r r' l) ∧
        (∀ M g k2, gR M 4 = r → d + 1 < g → m_X6_replaceDowns_L15 3 (nI l) k2 g (nI f) (nI k) M = k2 (nI f + 1) (sR 4 r' M)) ∧
        ∀ M g k2, RC 64 r M → d + 1 < g → ∃ M', RC 64 r' M' ∧ Fg 64 M M' ∧ m_X3_replaceDownNodes_L12 64 (64 + 27 + 5 * l) k2 g (nI f) (nI k) M = k2 (nI f + 1) M' := fun hq => by
      obtain ⟨r', hI', hm', hr, hc⟩ := ih (k + 1) r hI hl hf (by omega)
      refine ⟨r', hI', hm', fun M g k2 hM hg => ?_, fun M g k2 hR hg => ?_⟩
      · obtain ⟨g, rfl⟩ : ∃ k, g = k + 1 := ⟨g - 1, by omega⟩
        obtain ⟨q1, q2, q3, q4, q5⟩ := hofM M hM
        rw [m_X6_replaceDowns_L15_s, q1, bind_s, if_neg (nI_ge (by omega) (by omega)), q2, bind_s, q3, bind_s, q4, bind_s, q5, bind_s]
        unfold m_X6_replaceDowns_b53
        rw [if_pos (show (-1 : Int32) = -1 from rfl), nI_1 k]
        have hgo := hr M g k2 hM (by omega)
        rcases hq with hq | hq
        · rw [if_pos hq, if_neg (show ¬ (1 : Int32) = 0 by decide)]
          exact hgo
        · rw [hq, show on1 none = -1 from rfl, if_pos rfl, ite_self]
          exact hgo
      · obtain ⟨g, rfl⟩ : ∃ k, g = k + 1 := ⟨g - 1, by omega⟩
        obtain ⟨q1, q2, q3, q4, q5⟩ := hcM M hR
        obtain ⟨M', R1, F1, e1⟩ := hc M g k2 hR (by omega)
        refine ⟨M', R1, F1, ?_⟩
        rw [m_X3_replaceDownNodes_L12_s, q1, if_neg (nI_ge (by omega) (by omega)), q2, bind_s, q3, bind_s, q4, bind_s, q5, bind_s]
        unfold m_X3_replaceDownNodes_b46
        rw [if_pos (show (-1 : Int32) = -1 from rfl), nI_1 k]
        rcases hq with hq | hq
        · rw [hq, if_neg (show ¬ (1 : Int32) = 0 by decide)]
          exact e1
        · rw [hq, show on1 none = -1 from rfl, if_pos rfl, ite_self]
          exact e1
    by_cases hu : r (3 + mbf r l f k) = 1
    · exact hskip (Or.inl hu)
    · cases hch : rCh r (orB (mbf r l f) (vf r l 0)) nc with
      | none => exact hskip (Or.inr hch)
      | some n =>
        have hu0 : r (3 + mbf r l f k) = 0 := (up01 hI hn).resolve_right hu
        obtain ⟨hnn, hnb⟩ := ch_new hch
        have I1 := mb_I (p := k) hI hl hf (by omega) hnn (fun q hq _ => hnb q hq)
        have v0 : vf (rMb r l f k n) l 0 = vf r l 0 := mb_v (by omega)
        have v6 : vf (rMb r l f k n) l 6 = vf r l 6 := mb_v (by omega)
        obtain ⟨r', hI', hm', hr, hc⟩ := ih (k + 1) (rMb r l f k n) I1 hl (by omega) (by omega)
        refine ⟨r', hI', ⟨fun w hw => (hm'.1 w hw).trans (mb_o (by omega)), fun i hi => (hm'.2 i hi).trans (upd_n (by have := hL.2.2.2.2.2.2.1; omega))⟩, fun M g k2 hM hg => ?_, fun M g k2 hR hg => ?_⟩
        · obtain ⟨g, rfl⟩ : ∃ k, g = k + 1 := ⟨g - 1, by omega⟩
          obtain ⟨q1, q2, q3, q4, q5⟩ := hofM M hM
          have hgo := hr (sR 4 (rMb r l f k n) M) g k2 gR_self (by omega)
          rw [m_X6_replaceDowns_L15_s, q1, bind_s, if_neg (nI_ge (by omega) (by omega)), q2, bind_s, q3, bind_s, q4, bind_s, q5, bind_s, if_neg hu, if_pos (show (0 : Int32) = 0 from rfl), hch, show on1 (some n) = nI n from rfl]
          unfold m_X6_replaceDowns_b53
          rw [if_neg (nI_m1 (by omega)), show (128 : Int32) = nI 128 from rfl, show (5 : Int32) = nI 5 from rfl, nI_mul, nI_add, nI_add, set_ok (by omega), bind_s, nI_1 k, hM]
          rw [sR_sR] at hgo
          exact hgo
        · obtain ⟨g, rfl⟩ : ∃ k, g = k + 1 := ⟨g - 1, by omega⟩
          obtain ⟨q1, q2, q3, q4, q5⟩ := hcM M hR
          obtain ⟨N, e0, R0, F0⟩ := mb_R (n := n) (p := k) hR hI hl hf (by omega)
          obtain ⟨M', R1, F1, e1⟩ := hc N g k2 R0 (by omega)
          refine ⟨M', R1, F0.tr F1, ?_⟩
          rw [m_X3_replaceDownNodes_L12_s, q1, if_neg (nI_ge (by omega) (by omega)), q2, bind_s, q3, bind_s, q4, bind_s, q5, bind_s, hu0, if_pos (show (0 : Int32) = 0 from rfl), hch, show on1 (some n) = nI n from rfl]
          unfold m_X3_replaceDownNodes_b46
          rw [if_neg (nI_m1 (by omega)), e0, bind_s, nI_1 k]
          exact e1
theorem rd_out : ∀ (d f : Nat) (r : Nat → Int32), Inv r nc lc → l < lc → f + d = vf r l 6 → ∃ r', Inv r' nc lc ∧ (Lm r r' l ∧ Lo r r' l) ∧
    (∀ M g, gR M 4 = r → d < g → m_X6_replaceDowns_L2 3 (nI l) g (nI f) M = some (sR 4 r' M)) ∧
    ∀ M g, RC 64 r M → d < g → ∃ M', RC 64 r' M' ∧ Fg 64 M M' ∧ m_X3_replaceDownNodes_L2 64 (64 + 27 + 5 * l) g (nI f) M = some M' := by
  intro d
  induction d with
  | zero =>
    intro f r hI hl hf
    have hL := inv_l hI hl
    have hF := hL.2.2.2.2.2.2.1
    refine ⟨r, hI, ⟨fun _ _ => rfl, fun _ _ => rfl⟩, fun M g hM hg => ?_, fun M g hR hg => ⟨M, hR, Fg.rf, ?_⟩⟩
    · obtain ⟨g, rfl⟩ : ∃ k, g = k + 1 := ⟨g - 1, by omega⟩
      have hof := of_o (M := M) (w := 6) (by rw [hM]; exact hI) hl (by omega) (by omega)
      rw [hM] at hof
      rw [m_X6_replaceDowns_L2_s, show m_X6_of 3 (nI l) 6 M = _ from hof, bind_s, if_pos (nI_le (by omega) (by omega)), ← hM, sR_id]
    · obtain ⟨g, rfl⟩ : ∃ k, g = k + 1 := ⟨g - 1, by omega⟩
      have h1 : gF M (64 + 27 + 5 * l) 7 = nI (vf r l 6) := by rw [(rc_l hR hI hl).2.2.2.2.2.2.2.1, hL.1 6 (by omega) (by omega)]
      rw [m_X3_replaceDownNodes_L2_s, h1, if_pos (nI_le (by omega) (by omega))]
  | succ d ih =>
    intro f r hI hl hf
    have hL := inv_l hI hl
    have hF := hL.2.2.2.2.2.2.1
    have hE := hL.2.1
    obtain ⟨r1, I1, m1, hr1, hc1⟩ := rd_in (f := f) (by omega) (vf r l 0) 0 r hI hl (by omega) (by omega)
    obtain ⟨r', hI', hm', hr, hc⟩ := ih (f + 1) r1 I1 hl (by rw [m1.1.v (by omega)]; omega)
    refine ⟨r', hI', ⟨fun w hw => (hm'.1 w hw).trans (m1.1 w hw), fun i hi => (hm'.2 i hi).trans (m1.2 i hi)⟩, fun M g hM hg => ?_, fun M g hR hg => ?_⟩
    · obtain ⟨g, rfl⟩ : ∃ k, g = k + 1 := ⟨g - 1, by omega⟩
      have hof := of_o (M := M) (w := 6) (by rw [hM]; exact hI) hl (by omega) (by omega)
      rw [hM] at hof
      rw [m_X6_replaceDowns_L2_s, show m_X6_of 3 (nI l) 6 M = _ from hof, bind_s, if_neg (nI_ge (by omega) (by omega))]
      refine (hr1 M fuel _ hM (by unfold fuel; omega)).trans ?_
      rw [nI_1, hr (sR 4 r1 M) g gR_self (by omega), sR_sR]
    · obtain ⟨g, rfl⟩ : ∃ k, g = k + 1 := ⟨g - 1, by omega⟩
      have h1 : gF M (64 + 27 + 5 * l) 7 = nI (vf r l 6) := by rw [(rc_l hR hI hl).2.2.2.2.2.2.2.1, hL.1 6 (by omega) (by omega)]
      obtain ⟨N, R0, F0, e0⟩ := hc1 M fuel (fun w0 w1 => m_X3_replaceDownNodes_L2 64 (64 + 27 + 5 * l) g w0 w1) hR (by unfold fuel; omega)
      obtain ⟨M', R1, F1, e1⟩ := hc N g R0 (by omega)
      refine ⟨M', R1, F0.tr F1, ?_⟩
      rw [m_X3_replaceDownNodes_L2_s, h1, if_neg (nI_ge (by omega) (by omega))]
      refine e0.trans ?_
      rw [nI_1]
      exact e1
end MB
