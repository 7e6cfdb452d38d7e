/-! the law's run, by the row -/
def J5 (r : Nat → Int32) (nc : Nat) (M : Mem) : Prop := ∀ k, k < nc → gR M 5 k = if r (3 + k) = 1 then 0 else 1
def J3 (r : Nat → Int32) (lc : Nat) (M : Mem) : Prop := ∀ l, l < lc → gR M 3 l = nI (vf r l 0)
def J4 (r : Nat → Int32) (lc : Nat) (M : Mem) : Prop := ∀ l, l < lc → ∃ k, gR M 4 l = nI k - 1 ∧ k ≤ fl r l
def JJ (G : Nat → Bool) (M : Mem) (r : Nat → Int32) (nc lc n nx : Nat) : Prop := Tp G M r nc lc n nx ∧ J5 r nc M ∧ J3 r lc M ∧ J4 r lc M
/-- between two steps, with at most B rejections -/
def IV (G : Nat → Bool) (M : Mem) (r : Nat → Int32) (nc lc n nx B : Nat) : Prop := JJ G M r nc lc n nx ∧ Y r lc ∧ ∃ j, r 2 = nI j ∧ j ≤ B
section RUNS
variable {L : Nat} {xs : Nat → Int32} {k77 : Nat → Int32 → Nat → Nat → Nat → Int32 → Int32 → Int32 → (Nat → Bool) → Mem → Option Int32}
variable {G G1 : Nat → Bool} {M M1 : Mem} {r r' : Nat → Int32} {nc lc lb n nx e l node c n' nx' : Nat}
theorem Tp.sr {v : Nat → Int32} (h : Tp G M r nc lc n nx) (hc : c < 64 ∧ c ≠ 1) : Tp G (sR c v M) r nc lc n nx := by
  obtain ⟨hI, hR, hN, hn, hx, h0, h1⟩ := h
  exact ⟨hI, RC.ext (M := M) (M' := sR c v M) hI (fun _ _ => rfl) (fun c' h1 h2 => ⟨rfl, gR_ne (by omega)⟩) hR, hN, hn, hx, h0, h1⟩
theorem Sv.sr {v : Nat → Int32} (hI : Inv r nc lc) (h : Sv G M r nx) (hc : c < 64) : Sv G (sR c v M) r nx := ⟨h.1, RC.ext (M := M) (M' := sR c v M) hI (fun _ _ => rfl) (fun c' h1 h2 => ⟨rfl, gR_ne (by omega)⟩) h.2⟩
theorem rd_fl (hI : Inv r nc lc) (hY : Y r lc) (hl : l < lc) (h : vf r l 3 ≠ 1) : rRd r l = nI (fl r l) - 1 ∧ fl r l ≤ vf r l 4 := by
  have hL := inv_l hI hl
  have h3 := hL.2.2.2.2.1
  have h40 := hL.2.2.2.2.2.1
  unfold rRd fl
  by_cases h0 : vf r l 3 = 0
  · rw [if_pos h0, if_neg (by omega)]
    exact ⟨rfl, rCf_le⟩
  · have h2 : vf r l 3 = 2 := by omega
    obtain ⟨k, a, b, d⟩ := (hY.2.2 l hl).2 h2
    have hk : cl (r (2131 + 333 * l + 5) + 1) = k := by
      rw [a, Int32.sub_add_cancel, cl_nI (by omega)]
    rw [if_neg h0, if_pos h2, if_pos h2, hk]
    exact ⟨a, d⟩
theorem rd_1 (h : vf r l 3 = 1) : rRd r l = -1 := by
  unfold rRd
  rw [if_neg (by omega), if_neg (by omega)]
theorem fl_40 (hI : Inv r nc lc) (hY : Y r lc) (hl : l < lc) : fl r l ≤ 40 := by
  have hL := inv_l hI hl
  have h40 := hL.2.2.2.2.2.1
  by_cases h : vf r l 3 = 1
  · unfold fl
    rw [if_neg (by omega)]
    exact Nat.le_trans rCf_le h40
  · exact Nat.le_trans (rd_fl hI hY hl h).2 h40
theorem JJ.s4 {v : Int32} (h : JJ G M r nc lc n nx) (hl : l < lc) (hv : ∃ k, v = nI k - 1 ∧ k ≤ fl r l) : JJ G (aI 4 (nI l) v M) r nc lc n nx := by
  have h4 := h.1.1.2.1
  rw [aI_nI (by omega)]
  refine ⟨h.1.sr (by omega), fun k hk => ?_, fun k hk => ?_, fun k hk => ?_⟩
  · rw [gR_ne (by omega)]; exact h.2.1 k hk
  · rw [gR_ne (by omega)]; exact h.2.2.1 k hk
  · rw [gR_self]
    by_cases hq : k = l
    · subst hq
      rw [upd_s]
      exact hv
    · rw [upd_n hq]
      exact h.2.2.2 k hk
/-- what is confirmed is looked at, ledger by ledger -/
theorem l654 (hI : Inv r nc lc) (hY : Y r lc) (K : ∀ M, JJ G M r nc lc n nx → k77 0 (nI nc) 3 4 5 (nI lc) (nI n) (nI (e + 1)) G M = some 1) : ∀ (d k g : Nat) (M : Mem), k + d = lc → d < g → JJ G M r nc lc n nx → m_L_law_L654 L xs k77 g 0 (nI nc) 3 4 5 (nI lc) (nI n) (nI e) (nI k) G M = some 1 := by
  have h4 := hI.2.1
  intro d
  induction d with
  | zero =>
    intro k g M hk hg hJ
    obtain ⟨g, rfl⟩ : ∃ k, g = k + 1 := ⟨g - 1, by omega⟩
    rw [m_L_law_L654_s, if_pos (nI_le (by omega) (by omega)), nI_1]
    exact K M hJ
  | succ d ih =>
    intro k g M hk hg hJ
    obtain ⟨g, rfl⟩ : ∃ k, g = k + 1 := ⟨g - 1, by omega⟩
    have hl : k < lc := by omega
    have hR := hJ.1.2.1
    have h40 := (inv_l hI hl).2.2.2.2.2.1
    have hf := fl_40 hI hY hl
    obtain ⟨q, hq, hq2⟩ := hJ.2.2.2 k hl
    have fin : ∀ v : Int32, (∃ z, v = nI z - 1 ∧ z ≤ fl r k ∧ z ≤ vf r k 4) → (Option.bind (m_X5_appended 0 (nI k) M) fun z42 => (if v < z42 then (ck (ix (nI k) 4) (if v ≤ (gR M 4 (cl (nI k))) then (ck (ix (nI k) 4) (ck (ix (nI k) 4) (m_L_law_L654 L xs k77 g 0 (nI nc) 3 4 5 (nI lc) (nI n) (nI e) (nI k + 1) G (aI 4 (nI k) (gR M 4 (cl (nI k))) M)))) else (ck (ix (nI k) 4) (m_L_law_L654 L xs k77 g 0 (nI nc) 3 4 5 (nI lc) (nI n) (nI e) (nI k + 1) G (aI 4 (nI k) v M))))) else (some 0))) = some 1 := by
      rintro v ⟨z, rfl, hz, hz4⟩
      rw [q_app hR hI hl, bind_s, if_pos ((m1_lt (by omega) (by omega)).mpr hz4), ck_ix (by omega) (by omega), ck_ix (by omega) (by omega), ck_ix (by omega) (by omega), ck_ix (by omega) (by omega), cl_nI (by omega), nI_1]
      split
      · exact ih (k + 1) g _ (by omega) (by omega) (hJ.s4 hl ⟨q, hq, hq2⟩)
      · exact ih (k + 1) g _ (by omega) (by omega) (hJ.s4 hl ⟨z, rfl, hz⟩)
    rw [m_L_law_L654_s, if_neg (nI_ge (by omega) (by omega)), q_last hR hI hl, bind_s, q_state hR hI hl, bind_s]
    by_cases h1 : vf r k 3 = 1
    · rw [h1, if_pos (show nI 1 = 1 from rfl)]
      unfold m_L_law_b689 m_L_law_b705
      rw [q_state hR hI hl, bind_s, h1, if_pos (show nI 1 = 1 from rfl), rd_1 h1, if_pos rfl]
      exact fin (-1) ⟨0, rfl, by omega, by omega⟩
    · obtain ⟨ha, hb⟩ := rd_fl hI hY hl h1
      have h1' : ¬ nI (vf r k 3) = 1 := nI_ne (b := 1) (by have := (inv_l hI hl).2.2.2.2.1; omega) (by omega) h1
      rw [if_neg h1', ck_ix (by omega) (by omega), cl_nI (by omega), hq, ha, if_neg (fun h => by
        have := (mm_lt (by omega) (by omega)).mp h
        omega)]
      unfold m_L_law_b689 m_L_law_b705
      rw [q_state hR hI hl, bind_s, if_neg h1']
      exact fin _ ⟨fl r k, rfl, by omega, hb⟩
/-- what the step after this one is given -/
def KT (k77 : Nat → Int32 → Nat → Nat → Nat → Int32 → Int32 → Int32 → (Nat → Bool) → Mem → Option Int32) (nc e : Nat) : Prop := ∀ G M r lc n nx, IV G M r nc lc n nx (800 * (e + 1)) → k77 0 (nI nc) 3 4 5 (nI lc) (nI n) (nI (e + 1)) G M = some 1
theorem l654_0 (K : KT k77 nc e) (h : IV G M r nc lc n nx (800 * (e + 1))) : m_L_law_L654 L xs k77 fuel 0 (nI nc) 3 4 5 (nI lc) (nI n) (nI e) 0 G M = some 1 :=
  l654 h.1.1.1 h.2.1 (fun M' hJ => K G M' r lc n nx ⟨hJ, h.2⟩) lc 0 fuel M (by omega) (by have := h.1.1.1.2.1; unfold fuel; omega) h.1
/-- behind every change: perhaps it is undone, and then all is looked at -/
theorem b599 {v9 v17 : Int32} {w : Int64} (K : KT k77 nc e) (hI : Inv r nc lb) (hY : Y r lb) (hj : ∃ j, r 2 = nI j ∧ j ≤ 800 * (e + 1)) (hw : ∀ M, RC 64 r M → m_L_tale 0 (nI nc) (nI lb) M = some w)
    (h : IV G1 M1 r' nc lc n' nx' (800 * (e + 1))) (hS : Sv G1 M1 r nx) (hnx : nx < 4) (hx : (nx' + 3) % 4 = nx) (hn1 : 1 ≤ n') (hnode : node < nc)
    (h5 : ∀ k, k < nc → k ≠ node → gR M1 5 k = if r (3 + k) = 1 then 0 else 1) (h17 : v17 = if r (3 + node) = 1 then 0 else 1) (h3 : J3 r lb M1) (h4 : J4 r lb M1) :
    m_L_law_b599 L xs k77 0 (nI nc) 3 4 5 (nI lc) (nI e) v9 (nI node) w (nI lb) v17 (nI n') G1 M1 = some 1 := by
  have h8 := hI.1
  have hn4 := h.1.1.2.2.2.1
  unfold m_L_law_b599
  split
  · rw [ck_ix (by omega) (by omega), aI_nI (by omega)]
    obtain ⟨M', e1, hT, q3, q4, q5⟩ := undo3 (h.1.1.sr (c := 5) (v := upd (gR M1 5) node v17) (by omega)) (hS.sr hI (by omega)) hnx hx hn1 hI
    rw [e1, bind_s]
    show (if nI (n' - 1) = nI n' - 1 then _ else _) = _
    rw [if_pos (nI_sub1 hn1).symm]
    show Option.bind (m_L_tale 0 (nI nc) (nI lb) M') _ = _
    rw [hw M' hT.2.1, bind_s, if_pos rfl, show nI n' + (-1) = nI (n' - 1) from by rw [← nI_sub1 hn1, Int32.sub_eq_add_neg]]
    refine l654_0 K ⟨⟨hT, fun k hk => ?_, fun k hk => ?_, fun k hk => ?_⟩, hY, hj⟩
    · rw [q5, gR_self]
      by_cases hq : k = node
      · subst hq
        rw [upd_s]
        exact h17
      · rw [upd_n hq]
        exact h5 k hk hq
    · rw [q3, gR_ne (by omega)]; exact h3 k hk
    · rw [q4, gR_ne (by omega)]; exact h4 k hk
  · exact l654_0 K h
theorem b585 {v9 v17 : Int32} {w : Int64} (K : KT k77 nc e) (hI : Inv r nc lb) (hY : Y r lb) (hj : ∃ j, r 2 = nI j ∧ j ≤ 800 * (e + 1)) (hw : ∀ M, RC 64 r M → m_L_tale 0 (nI nc) (nI lb) M = some w)
    (h : IV G1 M1 r' nc lc (if n = 4 then 4 else n + 1) ((nx + 1) % 4) (800 * (e + 1))) (hS : Sv G1 M1 r nx) (hn : n ≤ 4) (hnx : nx < 4) (hnode : node < nc)
    (h5 : ∀ k, k < nc → k ≠ node → gR M1 5 k = if r (3 + k) = 1 then 0 else 1) (h17 : v17 = if r (3 + node) = 1 then 0 else 1) (h3 : J3 r lb M1) (h4 : J4 r lb M1) :
    m_L_law_b585 L xs k77 0 (nI nc) 3 4 5 (nI lc) (nI n) (nI e) v9 (nI node) w (nI lb) v17 G1 M1 = some 1 := by
  unfold m_L_law_b585
  by_cases hq : n = 4
  · rw [if_pos hq] at h
    subst hq
    rw [if_pos (show (4 : Int32) ≤ nI 4 from by decide)]
    exact b599 (n' := 4) K hI hY hj hw h hS hnx (by omega) (by omega) hnode h5 h17 h3 h4
  · rw [if_neg hq] at h
    rw [if_neg (show ¬ (4 : Int32) ≤ nI n from nI_ge (b := 4) (by omega) (by omega)), nI_1]
    exact b599 K hI hY hj hw h hS hnx (by omega) (by omega) hnode h5 h17 h3 h4
theorem J4.mono (h : J4 r lc M) (hf : ∀ l, l < lc → fl r l ≤ fl r' l) (he : gR M1 4 = gR M 4) : J4 r' lc M1 := fun l hl => by
  obtain ⟨k, a, b⟩ := h l hl
  exact ⟨k, by rw [he]; exact a, Nat.le_trans b (hf l hl)⟩
/-- the step: a node, a ledger, and the tale before it -/
def PP (G : Nat → Bool) (M : Mem) (r : Nat → Int32) (nc lc n nx e node l : Nat) (w : Int64) (v17 : Int32) : Prop := IV G M r nc lc n nx (800 * e) ∧ node < nc ∧ (0 < lc → l < lc) ∧ (∀ M, RC 64 r M → m_L_tale 0 (nI nc) (nI lc) M = some w) ∧ v17 = gR M 5 node
theorem PP.j {w : Int64} {v17 : Int32} (h : PP G M r nc lc n nx e node l w v17) : ∃ j, r 2 = nI j ∧ j ≤ 800 * (e + 1) := by
  obtain ⟨j, a, b⟩ := h.1.2.2
  exact ⟨j, a, by omega⟩
/-- behind a change that keeps who is up -/
theorem b585g {v9 v17 : Int32} {w : Int64} (K : KT k77 nc e) (h : PP G M r nc lc n nx e node l w v17) {B : Nat} (hB : B ≤ 800) (hg : Go lc B r r') (hO : Out G M r r' nc lc n nx G1 M1) :
    m_L_law_b585 L xs k77 0 (nI nc) 3 4 5 (nI lc) (nI n) (nI e) v9 (nI node) w (nI lc) v17 G1 M1 = some 1 := by
  obtain ⟨⟨⟨hT, h5, h3, h4⟩, hY, hj⟩, hnode, hl, hw, h17⟩ := id h
  obtain ⟨hT', hS, ⟨q3, q4, q5⟩, -⟩ := hO
  have h8 := hT.1.1
  obtain ⟨hY', hf⟩ := hg.1 hY
  obtain ⟨j, hj1, hj2⟩ := hj
  obtain ⟨i, hi1, hi2⟩ := hg.2.1 j hj1
  refine b585 K hT.1 hY h.j hw ⟨⟨hT', fun k hk => ?_, fun k hk => ?_, h4.mono hf q4⟩, hY', i, hi1, by omega⟩ hS hT.2.2.2.1 hT.2.2.2.2.1 hnode (fun k hk _ => ?_) (h17.trans (h5 node hnode)) (fun k hk => ?_) (fun k hk => ?_)
  · rw [q5, hg.2.2.1 k (by omega)]; exact h5 k hk
  · rw [q3, hg.2.2.2 k hk]; exact h3 k hk
  · rw [q5]; exact h5 k hk
  · rw [q3]; exact h3 k hk
  · rw [q4]; exact h4 k hk
/-- deliver to all -/
theorem s_all {v9 v17 : Int32} {w : Int64} (K : KT k77 nc e) (h : PP G M r nc lc n nx e node l w v17) : (Option.bind (m_X5_deliverAll 0 G M) fun z27 => (m_L_law_b585 L xs k77 0 (nI nc) 3 4 5 (nI lc) (nI n) (nI e) v9 (nI node) w (nI lc) v17 z27.2.1 z27.2.2)) = some 1 := by
  obtain ⟨v, G1, M1, r', e1, hO, hg⟩ := w_all h.1.1.1
  rw [e1, bind_s]
  exact b585g K h (Nat.le_refl _) hg hO
theorem b527 {v9 v15 v17 : Int32} {w : Int64} (K : KT k77 nc e) (h : PP G M r nc lc n nx e node l w v17) : m_L_law_b527 L xs k77 0 (nI nc) 3 4 5 (nI lc) (nI n) (nI e) v9 (nI node) (nI l) w v15 (nI lc) v17 G M = some 1 := by
  have hI := h.1.1.1.1
  have hR := h.1.1.1.2.1
  have h4 := hI.2.1
  unfold m_L_law_b527
  split
  · exact s_all K h
  · split
    · exact s_all K h
    · rename_i hz
      have hl : l < lc := h.2.2.1 (Nat.pos_of_ne_zero (fun q => hz (by subst q; decide)))
      have h3 := (inv_l hI hl).2.2.2.2.1
      have h40 := (inv_l hI hl).2.2.2.2.2.1
      rw [q_state hR hI hl, bind_s]
      split
      · rename_i h0
        have h0 : vf r l 3 = 0 := nI_inj (b := 0) (by omega) (by omega) h0
        rw [q_app hR hI hl, bind_s]
        split
        · exact s_all K h
        · rename_i h9
          have h9 : vf r l 4 < 40 := Nat.lt_of_not_le fun q => h9 (nI_le (a := 40) q (by omega))
          obtain ⟨p, hp, e1⟩ := low_ok (v9 >>> (10 &&& 31)) (b := 1000) (by omega) (by omega)
          obtain ⟨v, G1, M1, r', e2, hO, hg⟩ := w_append h.1.1.1 hl hp h0 h9
          rw [show m_L_low (v9 >>> (10 &&& 31)) 1000 = some (nI p) from e1, bind_s, e2, bind_s]
          exact b585g K h (Nat.zero_le _) hg hO
      · exact s_all K h
theorem b495 {v9 v15 v17 : Int32} {w : Int64} (K : KT k77 nc e) (h : PP G M r nc lc n nx e node l w v17) : m_L_law_b495 L xs k77 0 (nI nc) 3 4 5 (nI lc) (nI n) (nI e) v9 (nI node) (nI l) w v15 (nI lc) v17 G M = some 1 := by
  have hI := h.1.1.1.1
  have hR := h.1.1.1.2.1
  unfold m_L_law_b495
  split
  · split
    · exact b527 K h
    · rename_i hz
      have hl : l < lc := h.2.2.1 (Nat.pos_of_ne_zero (fun q => hz (by subst q; decide)))
      have h3 := (inv_l hI hl).2.2.2.2.1
      rw [q_state hR hI hl, bind_s]
      split
      · rename_i h2
        obtain ⟨v, G1, M1, r', e2, hO, hg⟩ := w_repair h.1.1.1 hl (nI_inj (b := 2) (by omega) (by omega) h2)
        rw [e2, bind_s]
        exact b585g K h (Nat.zero_le _) hg hO
      · exact b527 K h
  · exact b527 K h
theorem b453 {v9 v15 v17 : Int32} {w : Int64} (K : KT k77 nc e) (h : PP G M r nc lc n nx e node l w v17) : m_L_law_b453 L xs k77 0 (nI nc) 3 4 5 (nI lc) (nI n) (nI e) v9 (nI node) (nI l) w v15 (nI lc) v17 G M = some 1 := by
  have hI := h.1.1.1.1
  have hR := h.1.1.1.2.1
  unfold m_L_law_b453
  split
  · split
    · exact b495 K h
    · rename_i hz
      have hl : l < lc := h.2.2.1 (Nat.pos_of_ne_zero (fun q => hz (by subst q; decide)))
      split
      · rw [q_state hR hI hl, bind_s]
        split
        · exact b495 K h
        · rename_i h2
          obtain ⟨v, G1, M1, r', e2, hO, hg⟩ := w_recover h.1.1.1 hl (fun q => h2 (by rw [q]; rfl))
          rw [e2, bind_s]
          exact b585g K h (Nat.zero_le _) hg hO
      · exact b495 K h
  · exact b495 K h
theorem can_ch (hI : Inv r nc lc) (h5 : J5 r nc M) (h : Can r M nc l) : ∃ k, rCh r (orB (mbf r l (vf r l 6 - 1)) (vf r l 0)) nc = some k := by
  obtain ⟨m, hm, h0, hb⟩ := h
  cases hc : rCh r (orB (mbf r l (vf r l 6 - 1)) (vf r l 0)) nc with
  | some k => exact ⟨k, rfl⟩
  | none =>
    have hu : r (3 + m) = 1 := by
      rcases up01 hI hm with q | q
      · rw [h5 m hm, q, if_neg (by decide)] at h0
        exact absurd h0 (by decide)
      · exact q
    rw [rCh_none nc hc m hm hu] at hb
    cases hb
theorem b394 {v9 v15 v17 : Int32} {w : Int64} (K : KT k77 nc e) (h : PP G M r nc lc n nx e node l w v17) : m_L_law_b394 L xs k77 0 (nI nc) 3 4 5 (nI lc) (nI n) (nI e) v9 (nI node) (nI l) w v15 (nI lc) v17 G M = some 1 := by
  have hI := h.1.1.1.1
  have hR := h.1.1.1.2.1
  have h4 := hI.2.1
  unfold m_L_law_b394
  split
  · split
    · exact b453 K h
    · rename_i hz
      have hl : l < lc := h.2.2.1 (Nat.pos_of_ne_zero (fun q => hz (by subst q; decide)))
      have h3 := (inv_l hI hl).2.2.2.2.1
      have hE := (inv_l hI hl).2.1
      rw [q_state hR hI hl, bind_s]
      split
      · rename_i h0
        have h0 : vf r l 3 = 0 := nI_inj (b := 0) (by omega) (by omega) h0
        rw [ck_ix (by omega) (by omega), cl_nI (by omega), h.1.1.2.2.1 l hl]
        obtain ⟨z, ez, hzc⟩ := can_ok hR hI hl
        rw [ez, bind_s]
        split
        · exact b453 K h
        · rename_i hz0
          obtain ⟨-, hcan⟩ := hzc.resolve_left hz0
          obtain ⟨k, hk⟩ := can_ch hI h.1.1.2.1 hcan
          obtain ⟨p, hp, e1⟩ := low_ok (v9 >>> (10 &&& 31)) (b := vf r l 0) (by omega) (by omega)
          obtain ⟨v, G1, M1, r', e2, hO, hg⟩ := w_replace h.1.1.1 hl h0 hp hk
          rw [ck_ix (by omega) (by omega), e1, bind_s, e2, bind_s]
          exact b585g K h (Nat.zero_le _) hg hO
      · exact b453 K h
  · exact b453 K h
theorem b369 {v9 v15 v17 : Int32} {w : Int64} (K : KT k77 nc e) (h : PP G M r nc lc n nx e node l w v17) : m_L_law_b369 L xs k77 0 (nI nc) 3 4 5 (nI lc) (nI n) (nI e) v9 (nI node) (nI l) w v15 (nI lc) v17 G M = some 1 := by
  have hI := h.1.1.1.1
  have h8 := hI.1
  have hnode := h.2.1
  unfold m_L_law_b369
  split
  · exact b394 K h
  · rw [ck_ix (by omega) (by omega), cl_nI (by omega)]
    split
    · rename_i h0
      have hu : r (3 + node) = 1 := by
        rcases up01 hI hnode with q | q
        · rw [h.1.1.2.1 node hnode, q, if_neg (by decide)] at h0
          exact absurd h0 (by decide)
        · exact q
      obtain ⟨v, G1, M1, r', e2, hO, hg⟩ := w_deliver h.1.1.1 hnode hu
      rw [e2, bind_s]
      exact b585g K h (by omega) hg hO
    · exact b394 K h
/-- behind a change of one node's being up -/
theorem b585n {v9 v17 u : Int32} {w : Int64} (K : KT k77 nc e) (h : PP G M r nc lc n nx e node l w v17) (hO : Out G M r r' nc lc n nx G1 M1) (hu : u = if r' (3 + node) = 1 then 0 else 1)
    (hne : ∀ i, i ≠ 3 + node → (i < 11 ∨ 819 ≤ i) → r' i = r i) (hq : YQ r → YQ r') :
    m_L_law_b585 L xs k77 0 (nI nc) 3 4 5 (nI lc) (nI n) (nI e) v9 (nI node) w (nI lc) v17 G1 (aI 5 (nI node) u M1) = some 1 := by
  obtain ⟨⟨⟨hT, h5, h3, h4⟩, hY, hj⟩, hnode, hl, hw, h17⟩ := id h
  obtain ⟨hT', hS, ⟨q3, q4, q5⟩, -⟩ := hO
  have h8 := hT.1.1
  have h4c := hT.1.2.1
  obtain ⟨hY', hf⟩ := Y.sl hT.1 (fun i hi => hne i (by omega) (by omega)) hq hY
  obtain ⟨j, hj1, hj2⟩ := hj
  rw [aI_nI (by omega)]
  have hb : ∀ k, k < nc → k ≠ node → gR (sR 5 (upd (gR M1 5) node u) M1) 5 k = if r (3 + k) = 1 then 0 else 1 := fun k hk hq => by
    rw [gR_self, upd_n hq, q5]; exact h5 k hk
  refine b585 K hT.1 hY h.j hw ⟨⟨hT'.sr (by omega), fun k hk => ?_, fun k hk => ?_, h4.mono hf ((gR_ne (by omega)).trans q4)⟩, hY', j, (hne 2 (by omega) (by omega)).trans hj1, by omega⟩ (hS.sr hT.1 (by omega)) hT.2.2.2.1 hT.2.2.2.2.1 hnode hb (h17.trans (h5 node hnode)) (fun k hk => ?_) (fun k hk => ?_)
  · by_cases hq : k = node
    · subst hq
      rw [gR_self, upd_s]
      exact hu
    · rw [hb k hk hq, hne (3 + k) (by omega) (by omega)]
  · rw [gR_ne (by omega), q3, vfo (hne _ (by omega) (by omega))]; exact h3 k hk
  · rw [gR_ne (by omega), q3]; exact h3 k hk
  · rw [gR_ne (by omega), q4]; exact h4 k hk
theorem b338 {v9 v15 v17 : Int32} {w : Int64} (K : KT k77 nc e) (h : PP G M r nc lc n nx e node l w v17) : m_L_law_b338 L xs k77 0 (nI nc) 3 4 5 (nI lc) (nI n) (nI e) v9 (nI node) (nI l) w v15 (nI lc) v17 G M = some 1 := by
  have hI := h.1.1.1.1
  have h8 := hI.1
  have hnode := h.2.1
  unfold m_L_law_b338
  split
  · exact b369 K h
  · rw [ck_ix (by omega) (by omega), cl_nI (by omega)]
    split
    · rename_i h0
      have hu : r (3 + node) = 0 := by
        rcases up01 hI hnode with q | q
        · exact q
        · rw [h.1.1.2.1 node hnode, q, if_pos rfl] at h0
          exact absurd h0 (by decide)
      obtain ⟨v, G1, M1, e2, hO⟩ := w_restart h.1.1.1 hnode hu
      rw [e2, bind_s, ck_ix (by omega) (by omega)]
      refine b585n K h hO (by rw [upd_s, if_pos rfl]) (fun i hi _ => upd_n hi) (fun hQ m i hm hi h100 => ?_)
      rw [upd_n (by omega)] at hi
      rw [upd_n (by omega)]
      exact hQ m i hm hi h100
    · exact b369 K h
theorem b308 {v9 v15 v17 : Int32} {w : Int64} (K : KT k77 nc e) (h : PP G M r nc lc n nx e node l w v17) : m_L_law_b308 L xs k77 0 (nI nc) 3 4 5 (nI lc) (nI n) (nI e) v9 (nI node) (nI l) w v15 (nI lc) v17 G M = some 1 := by
  have hI := h.1.1.1.1
  have h8 := hI.1
  have hnode := h.2.1
  unfold m_L_law_b308
  split
  · rw [ck_ix (by omega) (by omega), cl_nI (by omega)]
    split
    · rename_i h0
      have hu : r (3 + node) = 1 := by
        rcases up01 hI hnode with q | q
        · rw [h.1.1.2.1 node hnode, q, if_neg (by decide)] at h0
          exact absurd h0 (by decide)
        · exact q
      obtain ⟨v, G1, M1, e2, hO⟩ := w_crash h.1.1.1 hnode hu
      rw [e2, bind_s, ck_ix (by omega) (by omega)]
      refine b585n K h hO (by rw [rCrash_u, if_neg (by decide)]) (fun i hi hi2 => rCrash_ne hi (by omega) (by omega)) (fun hQ m i hm hi h100 => ?_)
      by_cases hq : m = node
      · subst hq
        rw [rCrash_w hm] at hi
        exact absurd hi (Nat.not_lt_zero i)
      · rw [rCrash_ne (by omega) (by omega) (by omega)] at hi
        rw [rCrash_ne (by omega) (by omega) (by omega)]
        exact hQ m i hm hi h100
    · exact b338 K h
  · exact b338 K h
/-- a ledger is created -/
theorem b234 {v9 v17 : Int32} {w : Int64} (K : KT k77 nc e) (h : PP G M r nc lc n nx e node l w v17) (hl : lc < 4) {u : Nat} (hu1 : 1 ≤ u) (hu5 : u ≤ 5) (hup : u ≤ pc (upM r nc)) : m_L_law_b234 L xs k77 0 (nI nc) 3 4 5 (nI lc) (nI n) (nI e) v9 (nI node) w (nI lc) v17 3 (nI lc) 1 (v9 >>> (10 &&& 31)) (nI u) G M = some 1 := by
  obtain ⟨⟨⟨hT, h5, h3, h4⟩, hY, hj⟩, hnode, -, hw, h17⟩ := id h
  have h8 := hT.1.1
  obtain ⟨a, ha, e1⟩ := low_ok (v9 >>> (10 &&& 31)) hu1 (by omega)
  obtain ⟨b, hb, e2⟩ := low_ok (v9 >>> (13 &&& 31)) (b := 1 + a) (by omega) (by omega)
  obtain ⟨d, hd, e3⟩ := low_ok (v9 >>> (16 &&& 31)) (b := 1 + b) (by omega) (by omega)
  have hs : ∀ x : Nat, (1 : Int32) + nI x = nI (1 + x) := fun x => nI_add 1 x
  unfold m_L_law_b234
  rw [e1, bind_s, ck_ix (by omega) (by omega), ck_ix (by omega) (by omega), hs, cl_nI (by omega), aI_nI (by omega), aI_nI (by omega), gR_self, upd_s, e2, bind_s, ck_ix (by omega) (by omega), ck_ix (by omega) (by omega), hs, e3, bind_s, hs, gR_ne (c := 4) (c' := 3) (by omega), gR_self, upd_s]
  obtain ⟨MM, hMM⟩ : ∃ MM, MM = sR 4 (upd (gR (sR 3 (upd (gR M 3) lc (nI (1 + a))) M) 4) lc (-1)) (sR 3 (upd (gR M 3) lc (nI (1 + a))) M) := ⟨_, rfl⟩
  rw [← hMM]
  have g3 : gR MM 3 = upd (gR M 3) lc (nI (1 + a)) := by rw [hMM, gR_ne (by omega), gR_self]
  have g4 : gR MM 4 = upd (gR M 4) lc (-1) := by rw [hMM, gR_self, gR_ne (by omega)]
  have g5 : gR MM 5 = gR M 5 := by rw [hMM, gR_ne (by omega), gR_ne (by omega)]
  have hTM : Tp G MM r nc lc n nx := by rw [hMM]; exact (hT.sr (by omega)).sr (by omega)
  obtain ⟨G1, M1, e4, hT', hS, ⟨q3, q4, q5⟩, -⟩ := w_create (E := 1 + a) (W := 1 + b) (A := 1 + d) hTM hl (by omega) (by omega) (by omega) (by omega)
  rw [e4, bind_s]
  show (if nI lc = nI lc then _ else _) = _
  rw [if_pos rfl, if_neg (by decide), nI_1]
  obtain ⟨hY', hf⟩ := hY.new (E := 1 + a) (W := 1 + b) (A := 1 + d) hT.1 hl (by omega)
  obtain ⟨j, hj1, hj2⟩ := hj
  have ho : ∀ i, i ≠ 1 → ¬ lIx lc i → rNew r nc lc (1 + a) (1 + b) (1 + d) i = r i := fun i x1 x2 => rCk_o (by omega) x1 x2
  have k4 : J4 r lc M1 := fun k hk => by
    rw [q4, g4, upd_n (by omega)]; exact h4 k hk
  refine b585 K hT.1 hY h.j hw ⟨⟨hT', fun k hk => ?_, fun k hk => ?_, fun k hk => ?_⟩, hY', j, (new_2 (by omega)).trans hj1, by omega⟩ hS hT.2.2.2.1 hT.2.2.2.2.1 hnode (fun k hk _ => ?_) (h17.trans (h5 node hnode)) (fun k hk => ?_) k4
  · rw [q5, g5, ho _ (by omega) (by unfold lIx; omega)]; exact h5 k hk
  · rw [q3, g3]
    by_cases hq : k = lc
    · subst hq
      have c0 : vf (rNew r nc k (1 + a) (1 + b) (1 + d)) k 0 = 1 + a := by
        show cl (rNew r nc k (1 + a) (1 + b) (1 + d) (2131 + 333 * k + 0)) = 1 + a
        rw [show rNew r nc k (1 + a) (1 + b) (1 + d) (2131 + 333 * k + 0) = nI (1 + a) from (rCk_w (by omega)).trans rC0_0, cl_nI (by omega)]
      rw [upd_s, c0]
    · rw [upd_n hq, vfo (ho _ (by omega) (by unfold lIx; omega))]
      exact h3 k (by omega)
  · by_cases hq : k = lc
    · subst hq
      exact ⟨0, by rw [q4, g4, upd_s]; rfl, Nat.zero_le _⟩
    · obtain ⟨z, z1, z2⟩ := k4 k (by omega)
      exact ⟨z, z1, Nat.le_trans z2 (hf k (by omega))⟩
  · rw [q5, g5]; exact h5 k hk
  · rw [q3, g3, upd_n (by omega)]; exact h3 k hk
theorem b202 {v9 v15 v17 : Int32} {w : Int64} (K : KT k77 nc e) (h : PP G M r nc lc n nx e node l w v17) : m_L_law_b202 L xs k77 0 (nI nc) 3 4 5 (nI lc) (nI n) (nI e) v9 (nI node) (nI (pc (upM r nc))) (nI l) w v15 (nI lc) v17 G M = some 1 := by
  have hI := h.1.1.1.1
  have h4 := hI.2.1
  have hp : pc (upM r nc) ≤ 8 := pc_le
  unfold m_L_law_b202
  split
  · exact b308 K h
  · rename_i h3
    have hl : lc < 3 := Nat.lt_of_not_le fun q => h3 (nI_le (a := 3) q (by omega))
    split
    · exact b308 K h
    · rename_i h0
      have h1 : 1 ≤ pc (upM r nc) := Nat.pos_of_ne_zero (fun q => h0 (by rw [q]; decide))
      split
      · rename_i h5
        have h5 : 5 ≤ pc (upM r nc) := nI_le' (a := 5) (by omega) (by omega) h5
        exact b234 K h (by omega) (u := 5) (by omega) (by omega) h5
      · rename_i h5
        have h5 : pc (upM r nc) < 5 := Nat.lt_of_not_le fun q => h5 (nI_le (a := 5) q (by omega))
        exact b234 K h (by omega) h1 (by omega) (Nat.le_refl _)
theorem b160 {v9 : Int32} (K : KT k77 nc e) (h : IV G M r nc lc n nx (800 * e)) (hnode : node < nc) (hl : 0 < lc → l < lc) : m_L_law_b160 L xs k77 0 (nI nc) 3 4 5 (nI lc) (nI n) (nI e) v9 (nI node) (nI (pc (upM r nc))) (nI l) G M = some 1 := by
  have hI := h.1.1.1
  have h8 := hI.1
  obtain ⟨w, hw⟩ := tale_ok hI
  have hP : PP G M r nc lc n nx e node l w (gR M 5 node) := ⟨h, hnode, hl, hw, rfl⟩
  unfold m_L_law_b160
  rw [hw M h.1.1.2.1, bind_s, ck_ix (by omega) (by omega), cl_nI (by omega)]
  split
  · exact b202 K hP
  · split
    · exact b202 K hP
    · exact b308 K hP
theorem l110 {v9 : Int32} (K : KT k77 nc e) (h : IV G M r nc lc n nx (800 * e)) (hnode : node < nc) : ∀ (d k g : Nat), k + d = nc → d < g → m_L_law_L110 L xs k77 g 0 (nI nc) 3 4 5 (nI lc) (nI n) (nI e) v9 (nI node) (nI (pc (upM r k))) (nI k) G M = some 1 := by
  have hI := h.1.1.1
  have h8 := hI.1
  have h4 := hI.2.1
  intro d
  induction d with
  | zero =>
    intro k g hk hg
    obtain ⟨g, rfl⟩ : ∃ k, g = k + 1 := ⟨g - 1, by omega⟩
    rw [m_L_law_L110_s, if_pos (nI_le (by omega) (by omega)), show k = nc by omega]
    split
    · rename_i h0
      have h0 : lc = 0 := nI_inj (b := 0) (by omega) (by omega) h0
      exact b160 (l := 0) K h hnode (fun q => q)
    · rename_i h0
      obtain ⟨l, hl, e1⟩ := low_ok (v9 >>> (8 &&& 31)) (b := lc) (Nat.pos_of_ne_zero (fun q => h0 (by rw [q]; rfl))) (by omega)
      rw [e1, bind_s]
      exact b160 K h hnode (fun _ => hl)
  | succ d ih =>
    intro k g hk hg
    obtain ⟨g, rfl⟩ : ∃ k, g = k + 1 := ⟨g - 1, by omega⟩
    have hi := ih (k + 1) g (by omega) (by omega)
    rw [show upM r (k + 1) = if decide (r (3 + k) = 1) = true then upM r k ||| 2 ^ k else upM r k from rfl] at hi
    rw [m_L_law_L110_s, if_neg (nI_ge (by omega) (by omega)), ck_ix (by omega) (by omega), cl_nI (by omega), h.1.2.1 k (by omega), nI_1]
    rcases up01 hI (show k < nc by omega) with h0 | h0
    · rw [h0, if_neg (by decide)] at hi
      rw [h0, if_neg (show ¬ (0 : Int32) = 1 by decide), if_pos rfl, Int32.add_zero]
      exact hi
    · rw [h0, if_pos (by decide), pc_add (mkM_lt (by omega)) (by omega) (by
        cases hb : (upM r k).testBit k with
        | false => rfl
        | true => have := (mkM_bit.mp hb).1; omega)] at hi
      rw [h0, if_pos rfl, if_neg (show ¬ (0 : Int32) = 1 by decide), nI_1]
      exact hi
/-- the forty-eight steps -/
theorem l77 (hnc : 1 ≤ nc) : ∀ (d e g : Nat) (G : Nat → Bool) (M : Mem) (r : Nat → Int32) (lc n nx : Nat), e + d = 48 → d < g → IV G M r nc lc n nx (800 * e) → m_L_law_L77 L xs g 0 (nI nc) 3 4 5 (nI lc) (nI n) (nI e) G M = some 1 := by
  intro d
  induction d with
  | zero =>
    intro e g G M r lc n nx he hg h
    obtain ⟨g, rfl⟩ : ∃ k, g = k + 1 := ⟨g - 1, by omega⟩
    obtain ⟨j, hj1, hj2⟩ := h.2.2
    rw [m_L_law_L77_s, if_pos (show (48 : Int32) ≤ nI e from nI_le (a := 48) (by omega) (by omega)), q_rej h.1.1.2.1, hj1, if_neg (nI_pos (by omega))]
  | succ d ih =>
    intro e g G M r lc n nx he hg h
    obtain ⟨g, rfl⟩ : ∃ k, g = k + 1 := ⟨g - 1, by omega⟩
    have h8 := h.1.1.1.1
    rw [m_L_law_L77_s, if_neg (show ¬ (48 : Int32) ≤ nI e from nI_ge (b := 48) (by omega) (by omega)), show (1 : Int32) + nI e = nI (1 + e) from nI_add 1 e, ck_t (nI_pos (by omega))]
    obtain ⟨node, hnode, e1⟩ := low_ok ((cv xs L (nI (1 + e))) >>> (4 &&& 31)) hnc (by omega)
    rw [e1, bind_s]
    have K : KT (fun w0 w1 w2 w3 w4 w5 w6 w7 w8 w9 => m_L_law_L77 L xs g w0 w1 w2 w3 w4 w5 w6 w7 w8 w9) nc e := fun G M r lc n nx h' => ih (e + 1) g G M r lc n nx (by omega) (by omega) h'
    have hr := l110 (L := L) (xs := xs) (v9 := cv xs L (nI (1 + e))) K h hnode nc 0 fuel (by omega) (by unfold fuel; omega)
    rw [show pc (upM r 0) = 0 from (show pc 0 = 0 from by decide +kernel)] at hr
    exact hr
theorem YS.add {k : Nat} (hk : k < 8) (hI : Inv r k 0) (hY : Y r 0) : Y (rAdd r k) 0 := by
  have h8 := hI.1
  refine (Y.sl hI (fun i hi => rAdd_ne (by omega) (by omega)) (fun hQ m i hm hi h100 => ?_) hY).1
  rw [rAdd_ne (by omega) (by omega)] at hi
  rw [rAdd_ne (by omega) (by omega)]
  exact hQ m i hm hi h100
/-- the nodes are added, and the rows are made -/
theorem l23 (h2 : 2 ≤ nc) (h7 : nc ≤ 7) : ∀ (d k g : Nat) (G : Nat → Bool) (M : Mem) (r : Nat → Int32) (nx : Nat), k + d = nc → d < g → Tp G M r k 0 (if k ≤ 4 then k else 4) nx → Y r 0 → r 2 = 0 → (∀ j, j < k → r (3 + j) = 1) → G 7 = false → m_L_law_L23 L xs g 0 (nI nc) (nI k) G M = some 1 := by
  intro d
  induction d with
  | zero =>
    intro k g G M r nx hk hg hT hY hz hu hG
    obtain ⟨g, rfl⟩ : ∃ k, g = k + 1 := ⟨g - 1, by omega⟩
    have hk : k = nc := by omega
    subst hk
    rw [m_L_law_L23_s, if_pos (nI_le (by omega) (by omega)), ck_t hG]
    have hiv : ∀ n, n = (if k ≤ 4 then k else 4) → IV (va_up G 7 true) (inA M) r k 0 n nx (800 * 0) := fun n hn => by
      subst hn
      obtain ⟨hI, hR, hN, t4, tx, t0, t1⟩ := hT
      refine ⟨⟨⟨hI, RC.ext (M := M) (M' := inA M) hI (fun _ _ => rfl) (fun c h1 h2 => ⟨rfl, (gR_ne (by omega)).trans ((gR_ne (by omega)).trans (gR_ne (by omega)))⟩) hR, fun l hl => ⟨(hN l hl).1, fun i hi hGi => ?_⟩, t4, tx, t0, t1⟩, fun j hj => ?_, fun l hl => absurd hl (Nat.not_lt_zero l), fun l hl => absurd hl (Nat.not_lt_zero l)⟩, hY, 0, hz, Nat.zero_le _⟩
      · rw [va_up_ne _ _ (by omega)] at hGi
        exact (hN l hl).2 i hi hGi
      · rw [hu j hj, if_pos rfl]
        rfl
    by_cases h4 : k ≤ 4
    · rw [if_pos (show nI k ≤ 4 from nI_le (b := 4) h4 (by omega))]
      exact l77 (by omega) 48 0 49 _ _ r 0 k nx (by omega) (by omega) (hiv k (if_pos h4).symm)
    · rw [if_neg (show ¬ nI k ≤ 4 from nI_ge (a := 4) (by omega) (by omega))]
      exact l77 (by omega) 48 0 49 _ _ r 0 4 nx (by omega) (by omega) (hiv 4 (if_neg h4).symm)
  | succ d ih =>
    intro k g G M r nx hk hg hT hY hz hu hG
    obtain ⟨g, rfl⟩ : ∃ k, g = k + 1 := ⟨g - 1, by omega⟩
    obtain ⟨G1, M1, e1, hT', hS, -, h7'⟩ := w_addNode hT (by omega)
    rw [m_L_law_L23_s, if_neg (nI_ge (by omega) (by omega)), e1, bind_s]
    show (if nI k = nI k then _ else _) = _
    rw [if_pos rfl, nI_1]
    refine ih (k + 1) g G1 M1 _ ((nx + 1) % 4) (by omega) (by omega) ?_ (YS.add (by omega) hT.1 hY) ((rAdd_ne (by omega) (by omega)).trans hz) (fun j hj => ?_) (h7'.trans hG)
    · have hs : (if (if k ≤ 4 then k else 4) = 4 then 4 else (if k ≤ 4 then k else 4) + 1) = (if k + 1 ≤ 4 then k + 1 else 4) := by
        split <;> split <;> (try split) <;> omega
      rw [← hs]
      exact hT'
    · by_cases hq : j = k
      · subst hq
        unfold rAdd
        rw [upd_n (by omega), upd_s]
      · rw [rAdd_ne (by omega) (by omega)]
        exact hu j (by omega)
theorem Tp_first : Tp G0 M0 (fun _ => 0) 0 0 0 0 := by
  have hr : ∀ c, c / 64 ≠ 1 → gF M0 c = (fun _ => 0) := fun c hc => (ini_ne (B := 64) (M := Zm) (by omega)).1
  refine ⟨⟨by omega, by omega, rfl, rfl, fun n hn => absurd hn (Nat.not_lt_zero n), fun n _ hn => ⟨rfl, rfl, fun k _ => rfl, fun l _ => rfl⟩, fun l hl => absurd hl (Nat.not_lt_zero l), fun l _ hl w _ => rfl⟩, ⟨rfl, rfl, rfl, fun n hn => absurd hn (by rw [show cl ((fun _ => 0 : Nat → Int32) 0) = 0 from rfl]; omega), fun l hl => absurd hl (by rw [show cl ((fun _ => 0 : Nat → Int32) 1) = 0 from rfl]; omega)⟩, fun l hl => ⟨ini_Nm (B := 64) (by omega) l hl, fun i _ hG => absurd (show false = true from hG) (by decide)⟩, by omega, by omega, ?_, ?_⟩
  · rw [hr 1 (by omega)]; rfl
  · rw [hr 1 (by omega)]; rfl
theorem law_run : m_L_law L xs 0 G0 M0 = some 1 := by
  unfold m_L_law
  obtain ⟨a, ha, e1⟩ := low_ok (cv xs L 0) (b := 6) (by omega) (by omega)
  rw [ck_t (by decide), show m_L_low (cv xs L 0) 6 = some (nI a) from e1, bind_s, show (2 : Int32) + nI a = nI (2 + a) from nI_add 2 a]
  exact l23 (by omega) (by omega) (2 + a) 0 9 G0 M0 (fun _ => 0) 0 (by omega) (by omega) Tp_first ⟨fun n l e _ _ _ h => absurd rfl h, fun n i _ hi _ => absurd hi (by rw [show cl ((fun _ => 0 : Nat → Int32) (11 + n)) = 0 from rfl]; omega), fun l hl => absurd hl (Nat.not_lt_zero l)⟩ rfl (fun j hj => absurd hj (Nat.not_lt_zero j)) rfl
end RUNS
