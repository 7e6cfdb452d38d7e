/-! calls that read, and the law's small methods, by the row -/
section RDS
variable {M : Mem} {r : Nat → Int32} {nc lc l e k f p : Nat}
theorem q_state (hR : RC 64 r M) (hI : Inv r nc lc) (hl : l < lc) : m_X5_state 0 (nI l) M = some (nI (vf r l 3)) := by
  unfold m_X5_state
  rw [exL hR hI hl, bind_s, show gF M (91 + 5 * l) 4 = _ from (rc_l hR hI hl).2.2.2.2.1, (inv_l hI hl).1 3 (by omega) (by omega)]
theorem q_last (hR : RC 64 r M) (hI : Inv r nc lc) (hl : l < lc) : m_X5_lastReadable 0 (nI l) M = some (rRd r l) := by
  unfold m_X5_lastReadable
  rw [exL hR hI hl, bind_s, show m_X0_lastToRead (91 + 5 * l) M = _ from cread_ok (rc_l hR hI hl) (inv_l hI hl), bind_s]
theorem q_app (hR : RC 64 r M) (hI : Inv r nc lc) (hl : l < lc) : m_X5_appended 0 (nI l) M = some (nI (vf r l 4)) := by
  unfold m_X5_appended
  rw [exL hR hI hl, bind_s, show gF M (91 + 5 * l) 5 = _ from (rc_l hR hI hl).2.2.2.2.2.1, (inv_l hI hl).1 4 (by omega) (by omega)]
theorem q_frag (hR : RC 64 r M) (hI : Inv r nc lc) (hl : l < lc) : m_X5_fragmentCount 0 (nI l) M = some (nI (vf r l 6)) := by
  unfold m_X5_fragmentCount
  rw [exL hR hI hl, bind_s, show gF M (91 + 5 * l) 7 = _ from (rc_l hR hI hl).2.2.2.2.2.2.2.1, (inv_l hI hl).1 6 (by omega) (by omega)]
theorem q_member (hR : RC 64 r M) (hI : Inv r nc lc) (hl : l < lc) (hf : f < vf r l 6) (hp : p < vf r l 0) : m_X5_member 0 (nI l) (nI f) (nI p) M = some (nI (mbf r l f p)) := by
  have hL := inv_l hI hl
  have hE := hL.2.1
  unfold m_X5_member
  rw [exL hR hI hl, bind_s, show m_X5_requireFragment (91 + 5 * l) (nI f) M = _ from rqF_ok (rc_l hR hI hl) hL hf, bind_s, if_neg (nI_pos (by omega)), show gF M (91 + 5 * l) 1 = _ from (rc_l hR hI hl).2.1, hL.1 0 (by omega) (by omega), if_pos (nI_lt hp (by omega)), show m_X0_nodeAt (91 + 5 * l) (nI f) (nI p) M = _ from nodeAt_ok (rc_l hR hI hl) hL hf hp, bind_s]
theorem q_weight (hR : RC 64 r M) (hI : Inv r nc lc) (hk : k < nc) : m_X5_weight 0 (nI k) M = some (nI (rW r k 160)) := by
  unfold m_X5_weight
  rw [exN hR hI hk, bind_s, show gF M (67 + 3 * k) 2 = _ from (rc_n hR hI hk).2.2.1]
theorem q_inbox (hR : RC 64 r M) (hI : Inv r nc lc) (hk : k < nc) : m_X5_inboxLength 0 (nI k) M = some (r (11 + k)) := by
  unfold m_X5_inboxLength
  rw [exN hR hI hk, bind_s, show gF M (67 + 3 * k) 3 = _ from (rc_n hR hI hk).2.2.2.1]
theorem q_fenced (hR : RC 64 r M) (hI : Inv r nc lc) (hk : k < nc) (hl : l < lc) : m_X5_isFenced 0 (nI k) (nI l) M = some (r (2099 + 4 * k + l)) := by
  have h4 := hI.2.1
  unfold m_X5_isFenced
  rw [exN hR hI hk, bind_s, exL hR hI hl, bind_s, show m_X1_isFencedFor (67 + 3 * k) (nI l) M = _ from fenced_ok (rc_n hR hI hk) (by omega), bind_s]
  exact ck_t ((inv_n hI hk).2.2.2 l (by omega))
theorem q_holders (hR : RC 64 r M) (hI : Inv r nc lc) (hl : l < lc) (he : e < vf r l 4) : m_X5_holders 0 (nI l) (nI e) M = some (nI (hoM r l e nc)) := by
  have h4 := hI.2.1
  have hL := inv_l hI hl
  have h40 := hL.2.2.2.2.2.1
  unfold m_X5_holders
  rw [exL hR hI hl, bind_s, show m_X5_requireAppended (91 + 5 * l) (nI e) M = _ from rqA_ok (rc_l hR hI hl) hL he, bind_s, chold_ok (a := 91 + 5 * l) hR hI (rc_l hR hI hl).1 (by omega) (by omega), bind_s]
theorem q_acks (hR : RC 64 r M) (hI : Inv r nc lc) (hl : l < lc) (he : e < vf r l 4) : m_X5_acknowledgements 0 (nI l) (nI e) M = some (nI (pc (vf r l (47 + e)))) := by
  have hL := inv_l hI hl
  unfold m_X5_acknowledgements
  rw [exL hR hI hl, bind_s, show m_X5_requireAppended (91 + 5 * l) (nI e) M = _ from rqA_ok (rc_l hR hI hl) hL he, bind_s, show m_X0_countAcknowledgers (91 + 5 * l) (nI e) M = _ from cack_ok (rc_l hR hI hl) hL he, bind_s]
theorem q_under (hR : RC 64 r M) (hI : Inv r nc lc) (hl : l < lc) {K : Nat} (hK : K ≤ 40) (hr : rRd r l = nI K - 1) : m_X5_underReplicated 0 (nI l) M = some (nI (rUn r l K)) := by
  unfold m_X5_underReplicated
  rw [exL hR hI hl, bind_s, show m_X3_countUnderReplicated 64 (91 + 5 * l) M = _ from cund_ok hR hI hl (rc_l hR hI hl) hK hr, bind_s]
theorem q_rej (hR : RC 64 r M) : m_X5_rejections 0 M = r 2 := hR.2.2.1
/-! the tale is told by the row alone -/
theorem tale_f (hI : Inv r nc lc) (hl : l < lc) {x1 x2 : Int32} : ∀ (d k : Nat), k + d = nc → ∀ v : Int64, ∃ w : Int64, ∀ (M : Mem) (k54 : Int64 → Int32 → Option Int64) (g : Nat), RC 64 r M → d < g → m_L_tale_L175 0 (nI nc) x2 M k54 g v (nI l) (nI k) = k54 w (nI (l + 1)) := by
  have h8 := hI.1
  intro d
  induction d with
  | zero =>
    intro k hk v
    refine ⟨v, fun M k54 g hR hg => ?_⟩
    obtain ⟨g, rfl⟩ : ∃ k, g = k + 1 := ⟨g - 1, by omega⟩
    rw [m_L_tale_L175_s, if_pos (nI_le (by omega) (by omega)), nI_1]
  | succ d ih =>
    intro k hk v
    have hkn : k < nc := by omega
    by_cases hz : r (2099 + 4 * k + l) = 0
    · obtain ⟨w, hw⟩ := ih (k + 1) (by omega) (v * 2 + (0 : Int32).toInt64)
      refine ⟨w, fun M k54 g hR hg => ?_⟩
      obtain ⟨g, rfl⟩ : ∃ k, g = k + 1 := ⟨g - 1, by omega⟩
      rw [m_L_tale_L175_s, if_neg (nI_ge (by omega) (by omega)), q_fenced hR hI hkn hl, bind_s, if_pos hz, nI_1]
      exact hw M k54 g hR (by omega)
    · obtain ⟨w, hw⟩ := ih (k + 1) (by omega) (v * 2 + (1 : Int32).toInt64)
      refine ⟨w, fun M k54 g hR hg => ?_⟩
      obtain ⟨g, rfl⟩ : ∃ k, g = k + 1 := ⟨g - 1, by omega⟩
      rw [m_L_tale_L175_s, if_neg (nI_ge (by omega) (by omega)), q_fenced hR hI hkn hl, bind_s, if_neg hz, nI_1]
      exact hw M k54 g hR (by omega)
theorem tale_e (hI : Inv r nc lc) (hl : l < lc) {x2 : Int32} : ∀ (d e : Nat), e + d = vf r l 4 → ∀ v : Int64, ∃ w : Int64, ∀ (M : Mem) (k54 : Int64 → Int32 → Option Int64) (g : Nat), RC 64 r M → d < g → m_L_tale_L125 0 (nI nc) x2 M k54 g v (nI l) (nI e) = k54 w (nI (l + 1)) := by
  have h8 := hI.1
  have h40 := (inv_l hI hl).2.2.2.2.2.1
  intro d
  induction d with
  | zero =>
    intro e he v
    obtain ⟨w, hw⟩ := tale_f (x2 := x2) hI hl (x1 := 0) nc 0 (by omega) v
    refine ⟨w, fun M k54 g hR hg => ?_⟩
    obtain ⟨g, rfl⟩ : ∃ k, g = k + 1 := ⟨g - 1, by omega⟩
    rw [m_L_tale_L125_s, q_app hR hI hl, bind_s, if_pos (nI_le (by omega) (by omega))]
    exact hw M k54 fuel hR (by unfold fuel; omega)
  | succ d ih =>
    intro e he v
    obtain ⟨w, hw⟩ := ih (e + 1) (by omega) (v * 41 + (nI (hoM r l e nc)).toInt64 * 3 + (nI (pc (vf r l (47 + e)))).toInt64)
    refine ⟨w, fun M k54 g hR hg => ?_⟩
    obtain ⟨g, rfl⟩ : ∃ k, g = k + 1 := ⟨g - 1, by omega⟩
    rw [m_L_tale_L125_s, q_app hR hI hl, bind_s, if_neg (nI_ge (by omega) (by omega)), q_holders hR hI hl (by omega), bind_s, q_acks hR hI hl (by omega), bind_s, nI_1]
    exact hw M k54 g hR (by omega)
theorem tale_l (hI : Inv r nc lc) : ∀ (d l : Nat), l + d = lc → ∀ v : Int64, ∃ w : Int64, ∀ (M : Mem) (g : Nat), RC 64 r M → d < g → m_L_tale_L54 0 (nI nc) (nI lc) M g v (nI l) = some w := by
  have h4 := hI.2.1
  intro d
  induction d with
  | zero =>
    intro l hl v
    refine ⟨v, fun M g hR hg => ?_⟩
    obtain ⟨g, rfl⟩ : ∃ k, g = k + 1 := ⟨g - 1, by omega⟩
    rw [m_L_tale_L54_s, if_pos (nI_le (by omega) (by omega))]
  | succ d ih =>
    intro l hl v
    have hll : l < lc := by omega
    have h40 := (inv_l hI hll).2.2.2.2.2.1
    obtain ⟨K, hK, hr⟩ := rRd_of (inv_l hI hll)
    obtain ⟨w1, hw1⟩ := tale_e (x2 := nI lc) hI hll (vf r l 4) 0 (by omega) (v * 37 + (nI (vf r l 3)).toInt64 * 5 + (rRd r l).toInt64 * 11 + (nI (vf r l 4)).toInt64 * 13 + (nI (rUn r l K)).toInt64 + (nI (vf r l 6)).toInt64 * 17)
    obtain ⟨w, hw⟩ := ih (l + 1) (by omega) w1
    refine ⟨w, fun M g hR hg => ?_⟩
    obtain ⟨g, rfl⟩ : ∃ k, g = k + 1 := ⟨g - 1, by omega⟩
    rw [m_L_tale_L54_s, if_neg (nI_ge (by omega) (by omega)), q_state hR hI hll, bind_s, q_last hR hI hll, bind_s, q_app hR hI hll, bind_s, q_under hR hI hll hK hr, bind_s, q_frag hR hI hll, bind_s]
    refine (hw1 M _ fuel hR (by unfold fuel; omega)).trans ?_
    exact hw M g hR (by omega)
theorem tale_n (hI : Inv r nc lc) : ∀ (d k : Nat), k + d = nc → ∀ v : Int64, ∃ w : Int64, ∀ (M : Mem) (g : Nat), RC 64 r M → d < g → m_L_tale_L9 0 (nI nc) (nI lc) M g v (nI k) = some w := by
  have h8 := hI.1
  have h4 := hI.2.1
  intro d
  induction d with
  | zero =>
    intro k hk v
    obtain ⟨w, hw⟩ := tale_l hI lc 0 (by omega) v
    refine ⟨w, fun M g hR hg => ?_⟩
    obtain ⟨g, rfl⟩ : ∃ k, g = k + 1 := ⟨g - 1, by omega⟩
    rw [m_L_tale_L9_s, if_pos (nI_le (by omega) (by omega))]
    exact hw M fuel hR (by unfold fuel; omega)
  | succ d ih =>
    intro k hk v
    obtain ⟨w, hw⟩ := ih (k + 1) (by omega) (v * 31 + (nI (rW r k 160)).toInt64 * 7 + (r (11 + k)).toInt64 * 3)
    refine ⟨w, fun M g hR hg => ?_⟩
    obtain ⟨g, rfl⟩ : ∃ k, g = k + 1 := ⟨g - 1, by omega⟩
    rw [m_L_tale_L9_s, if_neg (nI_ge (by omega) (by omega)), q_weight hR hI (by omega), bind_s, q_inbox hR hI (by omega), bind_s, nI_1]
    exact hw M g hR (by omega)
theorem tale_ok (hI : Inv r nc lc) : ∃ w : Int64, ∀ M : Mem, RC 64 r M → m_L_tale 0 (nI nc) (nI lc) M = some w := by
  have h8 := hI.1
  obtain ⟨w, hw⟩ := tale_n hI nc 0 (by omega) (r 2).toInt64
  refine ⟨w, fun M hR => ?_⟩
  unfold m_L_tale
  rw [q_rej hR]
  exact hw M fuel hR (by unfold fuel; omega)
/-! who is a member, and whether one can be replaced -/
theorem mem_loop (hR : RC 64 r M) (hI : Inv r nc lc) (hl : l < lc) (hk : k < nc) : ∀ (d p g : Nat), p + d = vf r l 0 → d < g → m_L_isMember_L6 0 (nI l) (nI (vf r l 0)) (nI k) M g (if (orB (mbf r l (vf r l 6 - 1)) p).testBit k then 1 else 0) (nI p) = some (if (orB (mbf r l (vf r l 6 - 1)) (vf r l 0)).testBit k then 1 else 0) := by
  have h8 := hI.1
  have hL := inv_l hI hl
  have hE := hL.2.1
  have hF := hL.2.2.2.2.2.2.1
  intro d
  induction d with
  | zero =>
    intro p g hp hg
    obtain ⟨g, rfl⟩ : ∃ k, g = k + 1 := ⟨g - 1, by omega⟩
    rw [m_L_isMember_L6_s, if_pos (nI_le (by omega) (by omega)), show p = vf r l 0 by omega]
    exact ck_t (by split <;> decide)
  | succ d ih =>
    intro p g hp hg
    obtain ⟨g, rfl⟩ : ∃ k, g = k + 1 := ⟨g - 1, by omega⟩
    have hi := ih (p + 1) g (by omega) (by omega)
    have hm : mbf r l (vf r l 6 - 1) p < nc := hL.2.2.2.2.2.2.2.2.2.2.1 _ p (by omega) (by omega)
    have hs : (orB (mbf r l (vf r l 6 - 1)) (p + 1)).testBit k = ((orB (mbf r l (vf r l 6 - 1)) p).testBit k || decide (mbf r l (vf r l 6 - 1) p = k)) := by
      show (orB _ p ||| 2 ^ _).testBit k = _
      rw [Nat.testBit_or, Nat.testBit_two_pow]
    rw [hs] at hi
    rw [m_L_isMember_L6_s, if_neg (nI_ge (by omega) (by omega)), nI_1]
    cases hb : (orB (mbf r l (vf r l 6 - 1)) p).testBit k with
    | true =>
      rw [hb, Bool.true_or, if_pos rfl] at hi
      rw [if_pos rfl, if_neg (show ¬ (1 : Int32) = 0 by decide)]
      exact hi
    | false =>
      rw [hb, Bool.false_or] at hi
      rw [if_neg (show ¬ (false = true) by decide), if_pos (show (0 : Int32) = 0 from rfl), q_frag hR hI hl, bind_s, nI_sub1 (by omega), q_member hR hI hl (by omega) (by omega), bind_s]
      by_cases hq : mbf r l (vf r l 6 - 1) p = k
      · rw [decide_eq_true hq, if_pos rfl] at hi
        rw [hq, if_pos rfl]
        exact hi
      · rw [decide_eq_false hq, if_neg (show ¬ (false = true) by decide)] at hi
        rw [if_neg (nI_ne (by omega) (by omega) hq)]
        exact hi
theorem mem_ok (hR : RC 64 r M) (hI : Inv r nc lc) (hl : l < lc) (hk : k < nc) : m_L_isMember 0 (nI l) (nI (vf r l 0)) (nI k) M = some (if (orB (mbf r l (vf r l 6 - 1)) (vf r l 0)).testBit k then 1 else 0) := by
  have h := mem_loop hR hI hl hk (vf r l 0) 0 fuel (by omega) (by have := (inv_l hI hl).2.1; unfold fuel; omega)
  rw [show orB (mbf r l (vf r l 6 - 1)) 0 = 0 from rfl, Nat.zero_testBit] at h
  exact h
/-- there is a node for the last ensemble -/
def Can (r : Nat → Int32) (M : Mem) (nc l : Nat) : Prop := ∃ m, m < nc ∧ gR M 5 m = 0 ∧ (orB (mbf r l (vf r l 6 - 1)) (vf r l 0)).testBit m = false
theorem can_loop (hR : RC 64 r M) (hI : Inv r nc lc) (hl : l < lc) : ∀ (d k g : Nat) (v : Int32), k + d = nc → d < g → (v = 0 ∨ (v = 1 ∧ Can r M nc l)) → ∃ z, m_L_canReplace_L6 0 (nI l) (nI (vf r l 0)) 8 5 (nI nc) M g v (nI k) = some z ∧ (z = 0 ∨ (z = 1 ∧ Can r M nc l)) := by
  have h8 := hI.1
  intro d
  induction d with
  | zero =>
    intro k g v hk hg hv
    obtain ⟨g, rfl⟩ : ∃ k, g = k + 1 := ⟨g - 1, by omega⟩
    refine ⟨v, ?_, hv⟩
    rw [m_L_canReplace_L6_s, if_pos (nI_le (by omega) (by omega))]
    exact ck_t (hv.elim Or.inl (fun q => Or.inr q.1))
  | succ d ih =>
    intro k g v hk hg hv
    obtain ⟨g, rfl⟩ : ∃ k, g = k + 1 := ⟨g - 1, by omega⟩
    rw [m_L_canReplace_L6_s, if_neg (nI_ge (by omega) (by omega)), nI_1]
    rcases hv with hv | ⟨hv, hc⟩
    · rw [if_pos hv, ck_ix (by omega) (by omega), cl_nI (by omega)]
      by_cases hd : gR M 5 k = 0
      · rw [if_pos hd, mem_ok hR hI hl (by omega), bind_s]
        cases hb : (orB (mbf r l (vf r l 6 - 1)) (vf r l 0)).testBit k with
        | true =>
          rw [if_pos rfl, if_neg (show ¬ (1 : Int32) = 0 by decide)]
          exact ih (k + 1) g 0 (by omega) (by omega) (Or.inl rfl)
        | false =>
          rw [if_neg (show ¬ (false = true) by decide), if_pos rfl]
          exact ih (k + 1) g 1 (by omega) (by omega) (Or.inr ⟨rfl, k, by omega, hd, hb⟩)
      · rw [if_neg hd]
        exact ih (k + 1) g 0 (by omega) (by omega) (Or.inl rfl)
    · rw [if_neg (by rw [hv]; decide)]
      exact ih (k + 1) g 1 (by omega) (by omega) (Or.inr ⟨rfl, hc⟩)
theorem can_ok (hR : RC 64 r M) (hI : Inv r nc lc) (hl : l < lc) : ∃ z, m_L_canReplace 0 (nI l) (nI (vf r l 0)) 8 5 (nI nc) M = some z ∧ (z = 0 ∨ (z = 1 ∧ Can r M nc l)) := can_loop hR hI hl nc 0 fuel 0 (by omega) (by have := hI.1; unfold fuel; omega) (Or.inl rfl)
end RDS
/-! a number below n out of any int -/
theorem int_nI (x : Int32) : ∃ a : Nat, a < 4294967296 ∧ x = nI a := by
  refine ⟨x.toBitVec.toNat, x.toBitVec.isLt, Int32.toBitVec_inj.mp ?_⟩
  show x.toBitVec = BitVec.ofNat 32 x.toBitVec.toNat
  rw [BitVec.ofNat_toNat, BitVec.setWidth_eq]
theorem low_ok (x : Int32) {b : Nat} (h1 : 1 ≤ b) (h2 : b < 100000) : ∃ k, k < b ∧ m_L_low x (nI b) = some (nI k) := by
  obtain ⟨a, -, rfl⟩ := int_nI x
  have hm : nI a &&& 2147483647 = nI (a % 2147483648) := and_mod 31
  refine ⟨a % 2147483648 % b, Nat.mod_lt _ (by omega), ?_⟩
  unfold m_L_low
  rw [ck_t (nI_ne0 (by omega) (by omega)), hm, nI_rem (Nat.mod_lt _ (by omega)) (by omega)]
