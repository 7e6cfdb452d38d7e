/-! deliverAll -/
def anyW (r : Nat → Int32) : Nat → Nat → Bool
  | 0, _ => false
  | d + 1, k => decide (r (11 + k) ≠ 0) || anyW r d (k + 1)
theorem anyW_s {r : Nat → Int32} {d k : Nat} : anyW r (d + 1) k = (decide (r (11 + k) ≠ 0) || anyW r d (k + 1)) := rfl
theorem anyW_f {r : Nat → Int32} : ∀ (d k : Nat), anyW r d k = false → ∀ j, k ≤ j → j < k + d → r (11 + j) = 0 := by
  intro d
  induction d with
  | zero => intro k _ j h1 h2; omega
  | succ d ih =>
    intro k h j h1 h2
    rw [anyW_s, Bool.or_eq_false_iff, decide_eq_false_iff_not] at h
    by_cases hj : j = k
    · rw [hj]
      exact Classical.not_not.mp h.1
    · exact ih (k + 1) h.2 j (by omega) (by omega)
section ALL
variable {nc lc : Nat}
theorem anyW_ok {M : Mem} {r : Nat → Int32} (hR : RC 64 r M) (hI : Inv r nc lc) : ∀ (d k g : Nat), k + d = nc → d < g → m_X3_anyRequestWaits_L2 64 M g (nI k) = some (if anyW r d k = true then 1 else 0) := by
  have h8 := hI.1
  intro d
  induction d with
  | zero =>
    intro k g h1 h2
    obtain ⟨g, rfl⟩ : ∃ k, g = k + 1 := ⟨g - 1, by omega⟩
    rw [m_X3_anyRequestWaits_L2_s, rc_nc hR hI, if_pos (nI_le (by omega) (by omega))]
    rfl
  | succ d ih =>
    intro k g h1 h2
    obtain ⟨g, rfl⟩ : ∃ k, g = k + 1 := ⟨g - 1, by omega⟩
    have hn : k < nc := by omega
    rw [m_X3_anyRequestWaits_L2_s, rc_nc hR hI, if_neg (nI_ge (by omega) (by omega)), node_ok hR hI hn, bind_s, on_sm, (rc_n hR hI hn).2.2.2.1, anyW_s, nI_1]
    rcases wait_of hI hn with hw | ⟨w, hw1, hw⟩
    · rw [hw, if_pos (show (0 : Int32) ≤ 0 by decide), decide_eq_false (fun q => q rfl), Bool.false_or]
      exact ih (k + 1) g (by omega) (by omega)
    · rw [hw, if_neg (show ¬ nI (w + 1) ≤ 0 from nI_ge (a := 0) (by omega) (by omega)), decide_eq_true (nI_ne0 (by omega) (by omega)), Bool.true_or, if_pos rfl]
theorem anyW_all {M : Mem} {r : Nat → Int32} (hR : RC 64 r M) (hI : Inv r nc lc) : m_X3_anyRequestWaits 64 M = some (if anyW r nc 0 = true then 1 else 0) := anyW_ok hR hI nc 0 fuel (by omega) (by have := hI.1; unfold fuel; omega)
theorem round_ok : ∀ (d k : Nat) (r : Nat → Int32), k + d = nc → Inv r nc lc → ∃ (s : Int32) (r' : Nat → Int32), Inv r' nc lc ∧ (anyW r d k = false → r' = r ∧ s = 0) ∧ (∀ j, j < nc → (j < k → r' (11 + j) = r (11 + j)) ∧ (k ≤ j → ∀ w, w ≤ 100 → r (11 + j) = nI w → r' (11 + j) = nI (w - 1))) ∧
    (∀ M g k13 v1 v2, gR M 4 = r → d < g → m_X6_deliverAll_L21 3 k13 g v1 v2 (nI k) M = k13 (v1 + s) (if anyW r d k = true then 1 else v2) (sR 4 r' M)) ∧
    (∀ M g k15 v1 v2 G1, RC 64 r M → d < g → ∃ M', RC 64 r' M' ∧ Fg 64 M M' ∧ m_X5_deliverAll_L33 0 k15 g v1 v2 (nI k) G1 M = k15 (v1 + s) (v2 + 1) G1 M') ∧ Go lc d r r' := by
  intro d
  induction d with
  | zero =>
    intro k r h1 hI
    have h8 := hI.1
    refine ⟨0, r, hI, fun _ => ⟨rfl, rfl⟩, fun j hj => ⟨fun _ => rfl, fun h => by omega⟩, fun M g k13 v1 v2 hM hg => ?_, fun M g k15 v1 v2 G1 hR hg => ⟨M, hR, Fg.rf, ?_⟩, Go.rf⟩
    · obtain ⟨g, rfl⟩ : ∃ k, g = k + 1 := ⟨g - 1, by omega⟩
      rw [m_X6_deliverAll_L21_s, ck_0 (by omega), cl_0, hM, hI.2.2.1, if_pos (nI_le (by omega) (by omega)), Int32.add_zero, ← hM, sR_id]
      rfl
    · obtain ⟨g, rfl⟩ : ∃ k, g = k + 1 := ⟨g - 1, by omega⟩
      rw [m_X5_deliverAll_L33_s, rc_nc hR hI, if_pos (nI_le (by omega) (by omega)), Int32.add_zero]
  | succ d ih =>
    intro k r h1 hI
    have h8 := hI.1
    have hn : k < nc := by omega
    rcases wait_of hI hn with hw | ⟨w, hw1, hw⟩
    · obtain ⟨s, r', hI', ha, hj, hr, hc, hg⟩ := ih (k + 1) r (by omega) hI
      have hany : anyW r (d + 1) k = anyW r d (k + 1) := by rw [anyW_s, hw, decide_eq_false (fun q => q rfl), Bool.false_or]
      refine ⟨s, r', hI', by rw [hany]; exact ha, fun j hjn => ⟨fun h => (hj j hjn).1 (by omega), fun h w hw1 hw2 => ?_⟩, fun M g k13 v1 v2 hM hg => ?_, fun M g k15 v1 v2 G1 hR hg => ?_, hg.le (by omega)⟩
      · by_cases hjk : j = k
        · subst hjk
          have : w = 0 := nI_inj (by omega) (by omega) (hw2.symm.trans hw)
          rw [(hj j hjn).1 (by omega), hw, this]
          rfl
        · exact (hj j hjn).2 (by omega) w hw1 hw2
      · obtain ⟨g, rfl⟩ : ∃ k, g = k + 1 := ⟨g - 1, by omega⟩
        rw [m_X6_deliverAll_L21_s, ck_0 (by omega), cl_0, hM, hI.2.2.1, if_neg (nI_ge (by omega) (by omega)), isUp_ok (by omega), bind_s, Ln 11, nI_add, ck_ix (by omega) (by omega), cl_nI (by omega), hM, hw, if_pos (show (0 : Int32) ≤ 0 by decide), ite_self, nI_1, hany]
        exact hr M g k13 v1 v2 hM (by omega)
      · obtain ⟨g, rfl⟩ : ∃ k, g = k + 1 := ⟨g - 1, by omega⟩
        obtain ⟨M', c1, c2, c3⟩ := hc M g k15 v1 v2 G1 hR (by omega)
        refine ⟨M', c1, c2, ?_⟩
        rw [m_X5_deliverAll_L33_s, rc_nc hR hI, if_neg (nI_ge (by omega) (by omega)), cisUp_ok hR hI hn, bind_s, proc_none hR hI hn hw, bind_s, if_neg (show ¬ ((-1 : Int32), M).1 = 1 from fun q => absurd (show (-1 : Int32) = 1 from q) (by decide)), ite_self, nI_1]
        exact c3
    · have hu : r (3 + k) = 1 := by
        obtain ⟨k0, ⟨w', hw', k1, k2, -⟩, -⟩ := inv_n hI hn
        rcases k0 with k0 | k0
        · have : w + 1 = w' := nI_inj (by omega) (by omega) (hw.symm.trans k1)
          have := k2 k0
          omega
        · exact k0
      obtain ⟨v, r1, hv, hI1, q1, q2, q3, hp, hcl, hg1⟩ := proc_both hI hn hu hw hw1
      obtain ⟨s, r', hI', ha, hj, hr, hc, hg2⟩ := ih (k + 1) r1 (by omega) hI1
      have hany : anyW r (d + 1) k = true := by rw [anyW_s, hw, decide_eq_true (nI_ne0 (by omega) (by omega)), Bool.true_or]
      refine ⟨v + s, r', hI', (fun q => absurd (hany.symm.trans q) (by decide)), fun j hjn => ⟨fun h => ?_, fun h w2 hw2 hw3 => ?_⟩, fun M g k13 v1 v2 hM hg => ?_, fun M g k15 v1 v2 G1 hR hg => ?_, (hg1.tr hg2).le (by omega)⟩
      · rw [(hj j hjn).1 (by omega), q2 j (by omega) (by omega)]
      · by_cases hjk : j = k
        · subst hjk
          have : w2 = w + 1 := nI_inj (by omega) (by omega) (hw3.symm.trans hw)
          rw [(hj j hjn).1 (by omega), q1, this, Nat.add_sub_cancel]
        · exact (hj j hjn).2 (by omega) w2 hw2 (by rw [q2 j (by omega) hjk]; exact hw3)
      · obtain ⟨g, rfl⟩ : ∃ k, g = k + 1 := ⟨g - 1, by omega⟩
        rw [m_X6_deliverAll_L21_s, ck_0 (by omega), cl_0, hM, hI.2.2.1, if_neg (nI_ge (by omega) (by omega)), isUp_ok (by omega), bind_s, Ln 11, nI_add, ck_ix (by omega) (by omega), cl_nI (by omega), hM, hw, hu, if_pos (show (1 : Int32) = 1 from rfl), if_neg (show ¬ (1 : Int32) = 0 by decide), if_neg (show ¬ nI (w + 1) ≤ 0 from nI_ge (a := 0) (by omega) (by omega)), hp M hM, bind_s, nI_1, hany, if_pos rfl]
        show m_X6_deliverAll_L21 3 k13 g (v1 + v) 1 (nI (k + 1)) (sR 4 r1 M) = _
        rw [hr (sR 4 r1 M) g k13 (v1 + v) 1 gR_self (by omega), sR_sR, ite_self, Int32.add_assoc]
      · obtain ⟨g, rfl⟩ : ∃ k, g = k + 1 := ⟨g - 1, by omega⟩
        obtain ⟨N, d1, d2, d3⟩ := hcl 64 M (by omega) hR
        obtain ⟨M', c1, c2, c3⟩ := hc N g k15 (v1 + v) v2 G1 d2 (by omega)
        refine ⟨M', c1, d3.tr c2, ?_⟩
        rw [m_X5_deliverAll_L33_s, rc_nc hR hI, if_neg (nI_ge (by omega) (by omega)), cisUp_ok hR hI hn, bind_s, hu, if_neg (show ¬ (1 : Int32) = 0 by decide), d1, bind_s, nI_1, ← Int32.add_assoc]
        show (if v = 1 then m_X5_deliverAll_L33 0 k15 g (v1 + 1) v2 (nI (k + 1)) G1 N else m_X5_deliverAll_L33 0 k15 g v1 v2 (nI (k + 1)) G1 N) = _
        rcases hv with hv | hv
        · rw [hv] at c3 ⊢
          rw [Int32.add_zero] at c3 ⊢
          rw [if_neg (show ¬ (0 : Int32) = 1 by decide)]
          exact c3
        · rw [hv] at c3 ⊢
          rw [if_pos rfl]
          exact c3
theorem outer_ok : ∀ (t : Nat) (r : Nat → Int32), t ≤ 100 → Inv r nc lc → (∀ j, j < nc → ∃ w, w ≤ t ∧ r (11 + j) = nI w) → ∃ (s : Int32) (r' : Nat → Int32), Inv r' nc lc ∧
    (∀ M g v1, gR M 4 = r → t + 2 < g → m_X6_deliverAll_L13 3 g v1 1 M = some (v1 + s, sR 4 r' M)) ∧
    (∀ M g v1 rd G1, RC 64 r M → rd + t ≤ 100 → t + 2 < g → ∃ M', RC 64 r' M' ∧ Fg 64 M M' ∧ m_X5_deliverAll_L15 0 g v1 (nI rd) G1 M = some (v1 + s, G1, M')) ∧ Go lc (8 * t) r r' := by
  intro t
  induction t with
  | zero =>
    intro r _ hI hw
    have h8 := hI.1
    obtain ⟨s, r', hI', ha, hj, hr, hc, -⟩ := round_ok (lc := lc) nc 0 r (by omega) hI
    have hz : anyW r nc 0 = false := by
      have : ∀ (d k : Nat), k + d = nc → anyW r d k = false := by
        intro d
        induction d with
        | zero => intro k _; rfl
        | succ d ih =>
          intro k hk
          obtain ⟨w, hw1, hw2⟩ := hw k (by omega)
          rw [anyW_s, hw2, show w = 0 by omega, decide_eq_false (fun q => q rfl), Bool.false_or]
          exact ih (k + 1) (by omega)
      exact this nc 0 (by omega)
    obtain ⟨rfl, rfl⟩ := ha hz
    refine ⟨0, r', hI, fun M g v1 hM hg => ?_, fun M g v1 rd G1 hR hrd hg => ⟨M, hR, Fg.rf, ?_⟩, Go.rf⟩
    · obtain ⟨g, rfl⟩ : ∃ k, g = k + 2 := ⟨g - 2, by omega⟩
      rw [m_X6_deliverAll_L13_s, if_neg (show ¬ (1 : Int32) = 0 by decide)]
      refine (hr M fuel _ v1 0 hM (by unfold fuel; omega)).trans ?_
      rw [hz, if_neg (show ¬ (false = true) by decide), m_X6_deliverAll_L13_s, if_pos rfl, Int32.add_zero]
    · obtain ⟨g, rfl⟩ : ∃ k, g = k + 1 := ⟨g - 1, by omega⟩
      rw [m_X5_deliverAll_L15_s, Int32.add_zero]
      rw [anyW_all hR hI, bind_s, hz, if_neg (show ¬ (false = true) by decide), if_pos rfl, ite_self]
  | succ t iht =>
    intro r ht hI hw
    have h8 := hI.1
    obtain ⟨s, r1, hI1, ha, hj, hr, hc, hg1⟩ := round_ok (lc := lc) nc 0 r (by omega) hI
    by_cases hz : anyW r nc 0 = true
    · obtain ⟨s2, r', hI', hr2, hc2, hg2⟩ := iht r1 (by omega) hI1 (fun j hjn => by
        obtain ⟨w, hw1, hw2⟩ := hw j hjn
        exact ⟨w - 1, by omega, (hj j hjn).2 (by omega) w (by omega) hw2⟩)
      refine ⟨s + s2, r', hI', fun M g v1 hM hg => ?_, fun M g v1 rd G1 hR hrd hg => ?_, (hg1.tr hg2).le (by omega)⟩
      · obtain ⟨g, rfl⟩ : ∃ k, g = k + 1 := ⟨g - 1, by omega⟩
        rw [m_X6_deliverAll_L13_s, if_neg (show ¬ (1 : Int32) = 0 by decide)]
        refine (hr M fuel _ v1 0 hM (by unfold fuel; omega)).trans ?_
        rw [hz, if_pos rfl, hr2 (sR 4 r1 M) g (v1 + s) gR_self (by omega), sR_sR, Int32.add_assoc]
      · obtain ⟨g, rfl⟩ : ∃ k, g = k + 1 := ⟨g - 1, by omega⟩
        obtain ⟨N, d1, d2, d3⟩ := hc M fuel (fun w0 w1 w2 w3 => m_X5_deliverAll_L15 0 g w0 w1 w2 w3) v1 (nI rd) G1 hR (by unfold fuel; omega)
        obtain ⟨M', c1, c2, c3⟩ := hc2 N g (v1 + s) (rd + 1) G1 d1 (by omega) (by omega)
        refine ⟨M', c1, d2.tr c2, ?_⟩
        rw [m_X5_deliverAll_L15_s, if_neg (show ¬ (100 : Int32) ≤ nI rd from nI_ge (b := 100) (by omega) (by omega))]
        rw [anyW_all hR hI, bind_s, hz, if_pos rfl, if_neg (show ¬ (1 : Int32) = 0 by decide)]
        refine d3.trans ?_
        rw [nI_1, c3, Int32.add_assoc]
    · simp only [Bool.not_eq_true] at hz
      obtain ⟨rfl, rfl⟩ := ha hz
      refine ⟨0, r1, hI, fun M g v1 hM hg => ?_, fun M g v1 rd G1 hR hrd hg => ⟨M, hR, Fg.rf, ?_⟩, Go.rf⟩
      · obtain ⟨g, rfl⟩ : ∃ k, g = k + 2 := ⟨g - 2, by omega⟩
        rw [m_X6_deliverAll_L13_s, if_neg (show ¬ (1 : Int32) = 0 by decide)]
        refine (hr M fuel _ v1 0 hM (by unfold fuel; omega)).trans ?_
        rw [hz, if_neg (show ¬ (false = true) by decide), m_X6_deliverAll_L13_s, if_pos rfl, Int32.add_zero]
      · obtain ⟨g, rfl⟩ : ∃ k, g = k + 1 := ⟨g - 1, by omega⟩
        rw [m_X5_deliverAll_L15_s, Int32.add_zero]
        rw [anyW_all hR hI, bind_s, hz, if_neg (show ¬ (false = true) by decide), if_pos rfl, ite_self]
end ALL
