/-! is a recovery undecided; what is confirmed -/
theorem and_not {m u : Nat} (hm : m < 256) : nI m &&& (nI u ^^^ (-1)) = nI (m &&& (u ^^^ 255)) := by
  refine Int32.toBitVec_inj.mp ?_
  show BitVec.ofNat 32 m &&& (BitVec.ofNat 32 u ^^^ BitVec.allOnes 32) = BitVec.ofNat 32 (m &&& (u ^^^ (2 ^ 8 - 1)))
  apply BitVec.eq_of_getLsbD_eq
  intro i hi
  simp only [BitVec.getLsbD_and, BitVec.getLsbD_xor, BitVec.getLsbD_ofNat, BitVec.getLsbD_allOnes, Nat.testBit_and, Nat.testBit_xor, Nat.testBit_two_pow_sub_one, hi, decide_true, Bool.true_and]
  by_cases h8 : i < 8
  · rw [decide_eq_true h8]
  · rw [Nat.testBit_lt_two_pow (Nat.lt_of_lt_of_le hm (Nat.pow_le_pow_right (n := 2) (by omega) (show 8 ≤ i by omega)))]
    simp
/-- how many of the write set's first k are down -/
def rDn (r : Nat → Int32) (l f e k : Nat) : Nat := cnt (fun i => !decide (r (3 + mbf r l f ((e + i) % vf r l 0)) = 1)) k
def rUd (r : Nat → Int32) (l f : Nat) : Nat → Nat → Bool
  | 0, _ => false
  | d + 1, e => decide (vf r l 2 ≤ rDn r l f e (vf r l 1)) || rUd r l f d (e + 1)
theorem rUd_s {r : Nat → Int32} {l f d e : Nat} : rUd r l f (d + 1) e = (decide (vf r l 2 ≤ rDn r l f e (vf r l 1)) || rUd r l f d (e + 1)) := rfl
section UDC
variable {M : Mem} {B a nc lc l f n : Nat} {r : Nat → Int32}
theorem dn_pc {e : Nat} (hL : LI r nc l) (h8 : nc ≤ 8) (hf : f < vf r l 6) : pc (wsM r l f e &&& (upM r nc ^^^ 255)) = rDn r l f e (vf r l 1) := by
  rw [ws_pc hL h8 hf]
  refine cnt_congr (fun i hi => ?_)
  have hn := ws_lt (e := e) (i := i) hL hf
  rw [Nat.testBit_xor, show (255 : Nat) = 2 ^ 8 - 1 from rfl, Nat.testBit_two_pow_sub_one, decide_eq_true (show mbf r l f ((e + i) % vf r l 0) < 8 by omega), Bool.xor_true]
  congr 1
  rw [Bool.eq_iff_iff, mkM_bit]
  exact ⟨fun q => q.2, fun q => ⟨hn, q⟩⟩
theorem cud_loop (hR : RC B r M) (hI : Inv r nc lc) (hl : l < lc) (hC : CL M a r l) (hf : f + 1 = vf r l 6) : ∀ (d e g : Nat), e + d = vf r l 0 → d < g → m_X3_someQuorumIsDown_L9 B a M g (nI (upM r nc) ^^^ (-1)) (nI e) = some (if rUd r l f d e = true then 1 else 0) := by
  have hL := inv_l hI hl
  have h8 := hI.1
  have hE := hL.2.1
  have hW := hL.2.2.1
  have hA := hL.2.2.2.1
  have h1' : gF M a 1 = nI (vf r l 0) := by rw [hC.2.1, hL.1 0 (by omega) (by omega)]
  have h3' : gF M a 3 = nI (vf r l 2) := by rw [hC.2.2.2.1, hL.1 2 (by omega) (by omega)]
  have h7 : m_X0_lastFragment a M = nI f := by
    unfold m_X0_lastFragment
    rw [hC.2.2.2.2.2.2.2.1, hL.1 6 (by omega) (by omega), ← hf, nI_sub1 (by omega), Nat.add_sub_cancel]
  intro d
  induction d with
  | zero =>
    intro e g h1 h2
    obtain ⟨g, rfl⟩ : ∃ k, g = k + 1 := ⟨g - 1, by omega⟩
    rw [m_X3_someQuorumIsDown_L9_s, h1', if_pos (nI_le (by omega) (by omega))]
    rfl
  | succ d ih =>
    intro e g h1 h2
    obtain ⟨g, rfl⟩ : ∃ k, g = k + 1 := ⟨g - 1, by omega⟩
    have hb : wsM r l f e < 256 := orB_lt (fun i _ => Nat.lt_of_lt_of_le (ws_lt hL (by omega)) h8)
    have hb2 : wsM r l f e &&& (upM r nc ^^^ 255) < 256 := Nat.lt_of_le_of_lt Nat.and_le_left hb
    have hle : rDn r l f e (vf r l 1) ≤ vf r l 1 := cnt_le
    rw [m_X3_someQuorumIsDown_L9_s, h1', if_neg (nI_ge (by omega) (by omega)), h7, wsM_ok hC hL h8 (by omega) (by omega), bind_s, and_not hb, bitc_ok hb2, dn_pc hL h8 (by omega), h3', nI_1, rUd_s]
    by_cases hq : rDn r l f e (vf r l 1) < vf r l 2
    · rw [if_pos (nI_lt hq (by omega)), decide_eq_false (by omega), Bool.false_or]
      exact ih (e + 1) g (by omega) (by omega)
    · rw [if_neg (nI_nlt (by omega) (by omega)), decide_eq_true (by omega), Bool.true_or, if_pos rfl]
theorem cud_ok (hR : RC B r M) (hI : Inv r nc lc) (hl : l < lc) (hC : CL M a r l) (hf : f + 1 = vf r l 6) : m_X3_someQuorumIsDown B a M = some (if rUd r l f (vf r l 0) 0 = true then 1 else 0) := by
  unfold m_X3_someQuorumIsDown
  rw [upM_ok hR hI, bind_s]
  exact cud_loop hR hI hl hC hf (vf r l 0) 0 fuel (by omega) (by have := (inv_l hI hl).2.1; unfold fuel; omega)
theorem ud_in {e : Nat} (hI : Inv (gR M 4) nc lc) (hl : l < lc) (hf : f < vf (gR M 4) l 6) (he : e < 1000) {v3 : Int32} {k5 : Int32 → Int32 → Option Int32} : ∀ (d i g : Nat), i + d = vf (gR M 4) l 1 → d < g → m_X6_isUndecided_L22 3 (nI l) (nI f) M k5 g v3 (nI e) (nI (rDn (gR M 4) l f e i)) (nI i) = if v3 = 0 then k5 (if vf (gR M 4) l 2 ≤ rDn (gR M 4) l f e (vf (gR M 4) l 1) then 1 else 0) (nI (e + 1)) else k5 1 (nI (e + 1)) := by
  have hL := inv_l hI hl
  have h8 := hI.1
  have hE := hL.2.1
  have hW := hL.2.2.1
  have hA := hL.2.2.2.1
  have hof : m_X6_of 3 (nI l) 1 M = some (nI (vf (gR M 4) l 1)) := of_o hI hl (w := 1) (by omega) (by omega)
  have hof2 : m_X6_of 3 (nI l) 2 M = some (nI (vf (gR M 4) l 2)) := of_o hI hl (w := 2) (by omega) (by omega)
  have hle : ∀ i, rDn (gR M 4) l f e i ≤ i := fun i => cnt_le
  intro d
  induction d with
  | zero =>
    intro i g h1 h2
    obtain ⟨g, rfl⟩ : ∃ k, g = k + 1 := ⟨g - 1, by omega⟩
    have hi := hle i
    obtain rfl : i = vf (gR M 4) l 1 := by omega
    rw [m_X6_isUndecided_L22_s, hof, bind_s, if_pos (nI_le (by omega) (by omega)), hof2, bind_s, nI_1]
    by_cases hv : v3 = 0
    · rw [if_pos hv, if_pos hv]
      by_cases hq : rDn (gR M 4) l f e (vf (gR M 4) l 1) < vf (gR M 4) l 2
      · rw [if_pos (nI_lt hq (by omega)), if_neg (by omega)]
      · rw [if_neg (nI_nlt (by omega) (by omega)), if_pos (by omega)]
    · rw [if_neg hv, if_neg hv]
  | succ d ih =>
    intro i g h1 h2
    obtain ⟨g, rfl⟩ : ∃ k, g = k + 1 := ⟨g - 1, by omega⟩
    have hi := ih (i + 1) g (by omega) (by omega)
    have hn := ws_lt (e := e) (i := i) hL hf
    rw [show rDn (gR M 4) l f e (i + 1) = rDn (gR M 4) l f e i + (if (!decide (gR M 4 (3 + mbf (gR M 4) l f ((e + i) % vf (gR M 4) l 0)) = 1)) = true then 1 else 0) from rfl] at hi
    rw [m_X6_isUndecided_L22_s, hof, bind_s, if_neg (nI_ge (by omega) (by omega)), writer_o hI hl hf he (by omega), bind_s, isUp_ok (by omega), bind_s, nI_1 i]
    by_cases hu : gR M 4 (3 + mbf (gR M 4) l f ((e + i) % vf (gR M 4) l 0)) = 1
    · rw [if_pos hu, if_neg (show ¬ (1 : Int32) = 0 by decide), Int32.add_zero]
      rw [decide_eq_true hu, if_neg (by decide), Nat.add_zero] at hi
      exact hi
    · rw [if_neg hu, if_pos (show (0 : Int32) = 0 from rfl), nI_1]
      rw [decide_eq_false hu, if_pos (by decide)] at hi
      exact hi
theorem ud_loop (hI : Inv (gR M 4) nc lc) (hl : l < lc) (hf : f < vf (gR M 4) l 6) : ∀ (d e g : Nat) (b : Bool), e + d = vf (gR M 4) l 0 → d < g → m_X6_isUndecided_L5 3 (nI l) (nI f) M g (if b = true then 1 else 0) (nI e) = some (if (b || rUd (gR M 4) l f d e) = true then 1 else 0) := by
  have hL := inv_l hI hl
  have hE := hL.2.1
  have hW := hL.2.2.1
  have hof : m_X6_of 3 (nI l) 0 M = some (nI (vf (gR M 4) l 0)) := of_o hI hl (w := 0) (by omega) (by omega)
  intro d
  induction d with
  | zero =>
    intro e g b h1 h2
    obtain ⟨g, rfl⟩ : ∃ k, g = k + 1 := ⟨g - 1, by omega⟩
    rw [m_X6_isUndecided_L5_s, hof, bind_s, if_pos (nI_le (by omega) (by omega)), show rUd (gR M 4) l f 0 e = false from rfl, Bool.or_false]
    refine ck_t ?_
    cases b
    · exact Or.inl rfl
    · exact Or.inr rfl
  | succ d ih =>
    intro e g b h1 h2
    obtain ⟨g, rfl⟩ : ∃ k, g = k + 1 := ⟨g - 1, by omega⟩
    rw [m_X6_isUndecided_L5_s, hof, bind_s, if_neg (nI_ge (by omega) (by omega))]
    refine (ud_in hI hl hf (by omega) (vf (gR M 4) l 1) 0 fuel (by omega) (by unfold fuel; omega)).trans ?_
    rw [rUd_s]
    cases b
    · rw [if_neg (show ¬ (false = true) by decide), if_pos rfl, Bool.false_or]
      by_cases hq : vf (gR M 4) l 2 ≤ rDn (gR M 4) l f e (vf (gR M 4) l 1)
      · rw [if_pos hq, decide_eq_true hq]
        exact ih (e + 1) g true (by omega) (by omega)
      · rw [if_neg hq, decide_eq_false hq]
        exact ih (e + 1) g false (by omega) (by omega)
    · rw [if_pos rfl, if_neg (show ¬ (1 : Int32) = 0 by decide), Bool.true_or]
      exact ih (e + 1) g true (by omega) (by omega)
theorem ud_ok (hI : Inv (gR M 4) nc lc) (hl : l < lc) (hf : f < vf (gR M 4) l 6) : m_X6_isUndecided 3 (nI l) (nI f) M = some (if rUd (gR M 4) l f (vf (gR M 4) l 0) 0 = true then 1 else 0) :=
  ud_loop hI hl hf (vf (gR M 4) l 0) 0 fuel false (by omega) (by have := (inv_l hI hl).2.1; unfold fuel; omega)
/-- the greatest confirmed entry that a node stores of a ledger, and one -/
def gM (r : Nat → Int32) (n l : Nat) : Nat → Nat
  | 0 => 0
  | k + 1 => max (gM r n l k) (if r (819 + 160 * n + 40 * l + k) = 0 then 0 else cl (r (819 + 160 * n + 40 * l + k)) % 64)
theorem gM_s {k : Nat} : gM r n l (k + 1) = max (gM r n l k) (if r (819 + 160 * n + 40 * l + k) = 0 then 0 else cl (r (819 + 160 * n + 40 * l + k)) % 64) := rfl
theorem gM_le (hI : NIv r lc n) (hl : l < 4) : ∀ k, k ≤ 40 → gM r n l k ≤ 40 := by
  intro k
  induction k with
  | zero => exact fun _ => by unfold gM; omega
  | succ k ih =>
    intro hk
    have h1 := ih (by omega)
    rw [gM_s]
    rcases sc_at hI hl (show k < 40 by omega) with hz | ⟨p, c, hp, hc, hv⟩
    · rw [if_pos hz]; omega
    · rw [hv, if_neg (nI_ne0 (by omega) (by omega)), cl_nI (by omega)]; omega
theorem mm_lt {x y : Nat} (hx : x < 1000) (hy : y < 1000) : nI x - 1 < nI y - 1 ↔ x < y := by
  rw [Int32.lt_iff_toInt_lt, toInt_sub1 (by omega), toInt_sub1 (by omega)]
  omega
theorem mm_max {x y : Nat} (hx : x < 1000) (hy : y < 1000) : (if nI x - 1 < nI y - 1 then nI y - 1 else nI x - 1) = nI (max x y) - 1 := by
  by_cases h : x < y
  · rw [if_pos ((mm_lt hx hy).mpr h), Nat.max_eq_right (by omega)]
  · rw [if_neg (fun q => h ((mm_lt hx hy).mp q)), Nat.max_eq_left (by omega)]
theorem great_loop (hC : CN M a r n) (hI : NIv r lc n) (hl : l < 4) : ∀ (d k g : Nat), k + d = 40 → d < g → m_X1_greatestConfirmed_L4 a (nI l) M g (nI (gM r n l k) - 1) (nI k) = some (nI (gM r n l 40) - 1) := by
  intro d
  induction d with
  | zero =>
    intro k g h1 h2
    obtain ⟨g, rfl⟩ : ∃ k, g = k + 1 := ⟨g - 1, by omega⟩
    rw [m_X1_greatestConfirmed_L4_s, Ln 40, if_pos (nI_le (by omega) (by omega)), show k = 40 by omega]
  | succ d ih =>
    intro k g h1 h2
    obtain ⟨g, rfl⟩ : ∃ k, g = k + 1 := ⟨g - 1, by omega⟩
    have hi := ih (k + 1) g (by omega) (by omega)
    have hg := gM_le hI hl k (by omega)
    rw [gM_s] at hi
    rw [m_X1_greatestConfirmed_L4_s, Ln 40, if_neg (nI_ge (by omega) (by omega)), stored_ok hC hl (by omega), bind_s, nI_1]
    rcases sc_at hI hl (show k < 40 by omega) with hz | ⟨p, c, hp, hc, hv⟩
    · rw [hz, stc_0, if_pos rfl]
      rw [if_pos hz, Nat.max_eq_left (by omega)] at hi
      exact hi
    · rw [hv, if_neg (nI_ne0 (by omega) (by omega)), cl_nI (by omega), show (64 * (p + 1) + c) % 64 = c by omega] at hi
      rw [hv, stc_v hp hc, if_neg (nI_m1 (pz_lt (by omega) (by omega) (by omega) (by omega))), pz_c (by omega) (by omega) (by omega) (by omega), mm_max (by omega) (by omega)]
      exact hi
theorem great_ok (hC : CN M a r n) (hI : NIv r lc n) (hl : l < 4) : m_X1_greatestConfirmed a (nI l) M = some (nI (gM r n l 40) - 1) := great_loop hC hI hl 40 0 fuel (by omega) (by unfold fuel; omega)
/-- over the positions of the last ensemble -/
def rMx (r : Nat → Int32) (l f : Nat) : Nat → Nat → Nat → Nat
  | 0, _, m => m
  | d + 1, p, m => rMx r l f d (p + 1) (if r (3 + mbf r l f p) = 1 then max m (gM r (mbf r l f p) l 40) else m)
theorem rMx_s {d p m : Nat} : rMx r l f (d + 1) p m = rMx r l f d (p + 1) (if r (3 + mbf r l f p) = 1 then max m (gM r (mbf r l f p) l 40) else m) := rfl
theorem rMx_le (hI : Inv r nc lc) (hl : l < lc) (hf : f < vf r l 6) : ∀ (d p m : Nat), p + d = vf r l 0 → m ≤ 40 → rMx r l f d p m ≤ 40 := by
  have h4 := hI.2.1
  intro d
  induction d with
  | zero => exact fun p m _ h => h
  | succ d ih =>
    intro p m h1 h2
    have hn : mbf r l f p < nc := (inv_l hI hl).2.2.2.2.2.2.2.2.2.2.1 f p hf (by omega)
    have hg := gM_le (inv_n hI hn) (show l < 4 by omega) 40 (by omega)
    rw [rMx_s]
    refine ih (p + 1) _ (by omega) ?_
    split <;> omega
theorem clk_loop (hR : RC 64 r M) (hI : Inv r nc lc) (hl : l < lc) (hC : CL M a r l) (hf : f + 1 = vf r l 6) : ∀ (d p m g : Nat), p + d = vf r l 0 → d < g → m ≤ 40 → m_X3_lastKnownConfirmed_L13 64 a M g (nI m - 1) (nI p) = some (nI (rMx r l f d p m) - 1) := by
  have hL := inv_l hI hl
  have h8 := hI.1
  have h4 := hI.2.1
  have hE := hL.2.1
  have h1' : gF M a 1 = nI (vf r l 0) := by rw [hC.2.1, hL.1 0 (by omega) (by omega)]
  have h7 : m_X0_lastFragment a M = nI f := by
    unfold m_X0_lastFragment
    rw [hC.2.2.2.2.2.2.2.1, hL.1 6 (by omega) (by omega), ← hf, nI_sub1 (by omega), Nat.add_sub_cancel]
  intro d
  induction d with
  | zero =>
    intro p m g h1 h2 h3
    obtain ⟨g, rfl⟩ : ∃ k, g = k + 1 := ⟨g - 1, by omega⟩
    rw [m_X3_lastKnownConfirmed_L13_s, h1', if_pos (nI_le (by omega) (by omega))]
    rfl
  | succ d ih =>
    intro p m g h1 h2 h3
    obtain ⟨g, rfl⟩ : ∃ k, g = k + 1 := ⟨g - 1, by omega⟩
    have hn : mbf r l f p < nc := hL.2.2.2.2.2.2.2.2.2.2.1 f p (by omega) (by omega)
    have hg := gM_le (inv_n hI hn) (show l < 4 by omega) 40 (by omega)
    rw [m_X3_lastKnownConfirmed_L13_s, h1', if_neg (nI_ge (by omega) (by omega)), h7, nodeAt_ok hC hL (by omega) (by omega), bind_s, node_ok hR hI hn, bind_s, on_sm, (rc_n hR hI hn).1, hC.1, great_ok (rc_n hR hI hn) (inv_n hI hn) (by omega), bind_s, mm_max (by omega) (by omega), nI_1, rMx_s]
    rcases up01 hI hn with hu | hu
    · rw [if_pos hu, if_neg (fun q => absurd (hu.symm.trans q) (by decide))]
      exact ih (p + 1) m g (by omega) (by omega) h3
    · rw [if_neg (fun q => absurd (hu.symm.trans q) (by decide)), if_pos hu]
      exact ih (p + 1) _ g (by omega) (by omega) (by omega)
theorem clk_ok (hR : RC 64 r M) (hI : Inv r nc lc) (hl : l < lc) (hC : CL M a r l) (hf : f + 1 = vf r l 6) (h40 : vf r l (87 + f) ≤ 40) : m_X3_lastKnownConfirmed 64 a M = some (nI (rMx r l f (vf r l 0) 0 (vf r l (87 + f))) - 1) := by
  have hL := inv_l hI hl
  have h7 : m_X0_lastFragment a M = nI f := by
    unfold m_X0_lastFragment
    rw [hC.2.2.2.2.2.2.2.1, hL.1 6 (by omega) (by omega), ← hf, nI_sub1 (by omega), Nat.add_sub_cancel]
  unfold m_X3_lastKnownConfirmed
  rw [h7, startOf_ok hC hL (by omega), bind_s]
  exact clk_loop hR hI hl hC hf (vf r l 0) 0 _ fuel (by omega) (by have := hL.2.1; unfold fuel; omega) h40
theorem mm_le {x y : Nat} (hx : x < 1000) (hy : y < 1000) : nI x - 1 ≤ nI y - 1 ↔ x ≤ y := by
  rw [Int32.le_iff_toInt_le, toInt_sub1 (by omega), toInt_sub1 (by omega)]
  omega
theorem m1_le {x : Nat} (hx : x < 1000) : (-1 : Int32) ≤ nI x - 1 := (mm_le (x := 0) (by omega) hx).mpr (Nat.zero_le _)
theorem sc_dn (hn : n < 8) (hu : gR M 4 (3 + n) ≠ 1) {v4 x2 : Int32} {m : Nat} (hm : m ≤ 40) {k15 : Int32 → Int32 → Option Int32} : ∀ (d k g : Nat), k + d = 40 → d < g → m_X6_storedConfirmed_L39 3 (nI l) x2 M k15 g (nI m - 1) v4 (nI n) (nI k) = k15 (nI m - 1) (v4 + 1) := by
  intro d
  induction d with
  | zero =>
    intro k g h1 h2
    obtain ⟨g, rfl⟩ : ∃ k, g = k + 1 := ⟨g - 1, by omega⟩
    rw [m_X6_storedConfirmed_L39_s, show (40 : Int32) = nI 40 from rfl, if_pos (nI_le (by omega) (by omega))]
  | succ d ih =>
    intro k g h1 h2
    obtain ⟨g, rfl⟩ : ∃ k, g = k + 1 := ⟨g - 1, by omega⟩
    rw [m_X6_storedConfirmed_L39_s, show (40 : Int32) = nI 40 from rfl, if_neg (nI_ge (by omega) (by omega)), isUp_ok (by omega), bind_s, if_neg hu, if_pos rfl]
    unfold m_X6_storedConfirmed_b80
    rw [if_pos (m1_le (by omega)), nI_1 k]
    exact ih (k + 1) g (by omega) (by omega)
theorem sc_up (hI : NIv (gR M 4) lc n) (hn : n < 8) (hl : l < 4) (hu : gR M 4 (3 + n) = 1) {v4 x2 : Int32} {m : Nat} (hm : m ≤ 40) {k15 : Int32 → Int32 → Option Int32} : ∀ (d k g : Nat), k + d = 40 → d < g → m_X6_storedConfirmed_L39 3 (nI l) x2 M k15 g (nI (max m (gM (gR M 4) n l k)) - 1) v4 (nI n) (nI k) = k15 (nI (max m (gM (gR M 4) n l 40)) - 1) (v4 + 1) := by
  intro d
  induction d with
  | zero =>
    intro k g h1 h2
    obtain ⟨g, rfl⟩ : ∃ k, g = k + 1 := ⟨g - 1, by omega⟩
    rw [m_X6_storedConfirmed_L39_s, show (40 : Int32) = nI 40 from rfl, if_pos (nI_le (by omega) (by omega)), show k = 40 by omega]
  | succ d ih =>
    intro k g h1 h2
    obtain ⟨g, rfl⟩ : ∃ k, g = k + 1 := ⟨g - 1, by omega⟩
    have hi := ih (k + 1) g (by omega) (by omega)
    have hg := gM_le hI hl k (by omega)
    rw [gM_s] at hi
    rw [m_X6_storedConfirmed_L39_s, show (40 : Int32) = nI 40 from rfl, if_neg (nI_ge (by omega) (by omega)), isUp_ok (by omega), bind_s, if_pos hu, if_neg (show ¬ (1 : Int32) = 0 by decide), stores_ok (by omega), bind_s, confirmedAt_ok (by omega), bind_s]
    unfold m_X6_storedConfirmed_b80
    rcases sc_at hI hl (show k < 40 by omega) with hz | ⟨p, c, hp, hc, hv⟩
    · rw [if_pos hz, if_pos rfl, if_pos (m1_le (by omega)), nI_1 k]
      rw [if_pos hz, Nat.max_eq_left (show 0 ≤ gM (gR M 4) n l k by omega)] at hi
      exact hi
    · rw [hv, if_neg (nI_ne0 (by omega) (by omega)), cl_nI (by omega), show (64 * (p + 1) + c) % 64 = c by omega] at hi
      rw [hv, if_neg (nI_ne0 (by omega) (by omega)), if_neg (show ¬ (1 : Int32) = 0 by decide), show (64 : Int32) = nI 64 from rfl, nI_rem (by omega) (by omega), show (64 * (p + 1) + c) % 64 = c by omega, nI_1 k]
      by_cases hq : c ≤ max m (gM (gR M 4) n l k)
      · rw [if_pos ((mm_le (by omega) (by omega)).mpr hq)]
        rw [show max m (max (gM (gR M 4) n l k) c) = max m (gM (gR M 4) n l k) by omega] at hi
        exact hi
      · rw [if_neg (fun q => hq ((mm_le (by omega) (by omega)).mp q))]
        rw [show max m (max (gM (gR M 4) n l k) c) = c by omega] at hi
        exact hi
theorem sc_loop (hI : Inv (gR M 4) nc lc) (hl : l < lc) (hf : f < vf (gR M 4) l 6) : ∀ (d p m g : Nat), p + d = vf (gR M 4) l 0 → d < g → m ≤ 40 → m_X6_storedConfirmed_L15 3 (nI l) (nI f) M g (nI m - 1) (nI p) = some (nI (rMx (gR M 4) l f d p m) - 1) := by
  have hL := inv_l hI hl
  have h8 := hI.1
  have h4 := hI.2.1
  have hE := hL.2.1
  have h41 := hL.2.2.2.2.2.2.1.2
  have hof : m_X6_of 3 (nI l) 0 M = some (nI (vf (gR M 4) l 0)) := of_o hI hl (w := 0) (by omega) (by omega)
  intro d
  induction d with
  | zero =>
    intro p m g h1 h2 h3
    obtain ⟨g, rfl⟩ : ∃ k, g = k + 1 := ⟨g - 1, by omega⟩
    rw [m_X6_storedConfirmed_L15_s, hof, bind_s, if_pos (nI_le (by omega) (by omega))]
    rfl
  | succ d ih =>
    intro p m g h1 h2 h3
    obtain ⟨g, rfl⟩ : ∃ k, g = k + 1 := ⟨g - 1, by omega⟩
    have hn : mbf (gR M 4) l f p < nc := hL.2.2.2.2.2.2.2.2.2.2.1 f p hf (by omega)
    have hg := gM_le (inv_n hI hn) (show l < 4 by omega) 40 (by omega)
    rw [m_X6_storedConfirmed_L15_s, hof, bind_s, if_neg (nI_ge (by omega) (by omega)), memberOf_ok (by omega), bind_s, hL.1 (128 + 5 * f + p) (by omega) (by omega), rMx_s]
    by_cases hu : gR M 4 (3 + mbf (gR M 4) l f p) = 1
    · rw [if_pos hu]
      have h := sc_up (inv_n hI hn) (by omega) (show l < 4 by omega) hu (v4 := nI p) (x2 := nI f) h3 (k15 := fun w0 w1 => m_X6_storedConfirmed_L15 3 (nI l) (nI f) M g w0 w1) 40 0 fuel (by omega) (by unfold fuel; omega)
      rw [show max m (gM (gR M 4) (mbf (gR M 4) l f p) l 0) = m from Nat.max_eq_left (Nat.zero_le _)] at h
      refine h.trans ?_
      rw [nI_1 p]
      exact ih (p + 1) _ g (by omega) (by omega) (by omega)
    · rw [if_neg hu]
      have h := sc_dn (l := l) (show mbf (gR M 4) l f p < 8 by omega) hu (v4 := nI p) (x2 := nI f) h3 (k15 := fun w0 w1 => m_X6_storedConfirmed_L15 3 (nI l) (nI f) M g w0 w1) 40 0 fuel (by omega) (by unfold fuel; omega)
      refine h.trans ?_
      rw [nI_1 p]
      exact ih (p + 1) m g (by omega) (by omega) h3
theorem sc_ok (hI : Inv (gR M 4) nc lc) (hl : l < lc) (hf : f < vf (gR M 4) l 6) (h40 : vf (gR M 4) l (87 + f) ≤ 40) : m_X6_storedConfirmed 3 (nI l) (nI f) M = some (nI (rMx (gR M 4) l f (vf (gR M 4) l 0) 0 (vf (gR M 4) l (87 + f))) - 1) := by
  have hL := inv_l hI hl
  have h41 := hL.2.2.2.2.2.2.1.2
  have hof := of_o (M := M) (w := 87 + f) hI hl (by omega) (by omega)
  unfold m_X6_storedConfirmed
  rw [show (87 : Int32) = nI 87 from rfl, nI_add, hof, bind_s]
  exact sc_loop hI hl hf (vf (gR M 4) l 0) 0 _ fuel (by omega) (by have := hL.2.1; unfold fuel; omega) h40
end UDC
/-! a recovery doesn't stop before what was confirmed -/
section QRM
variable {nc lc l f e : Nat} {r : Nat → Int32}
theorem gM_K (hS : YS r) {n : Nat} (hn : n < 8) (hl : l < 4) : ∀ k, k ≤ 40 → gM r n l k ≤ vf r l 4 := by
  intro k
  induction k with
  | zero => intro _; exact Nat.zero_le _
  | succ k ih =>
    intro hk
    rw [gM_s]
    have h1 := ih (by omega)
    split
    · omega
    · rename_i h0
      have := hS n l k hn hl (by omega) h0
      omega
theorem rMx_ge : ∀ (d p m : Nat), m ≤ rMx r l f d p m := by
  intro d
  induction d with
  | zero => exact fun _ _ => Nat.le_refl _
  | succ d ih =>
    intro p m
    rw [rMx_s]
    refine Nat.le_trans ?_ (ih (p + 1) _)
    split <;> omega
theorem rMx_K (hI : Inv r nc lc) (hl : l < lc) (hf : f < vf r l 6) (hS : YS r) : ∀ (d p m : Nat), p + d = vf r l 0 → m ≤ vf r l 4 → rMx r l f d p m ≤ vf r l 4 := by
  have h8 := hI.1
  have h4 := hI.2.1
  intro d
  induction d with
  | zero => exact fun _ _ _ h => h
  | succ d ih =>
    intro p m hp hm
    rw [rMx_s]
    refine ih (p + 1) _ (by omega) ?_
    have hn : mbf r l f p < nc := (inv_l hI hl).2.2.2.2.2.2.2.2.2.2.1 f p hf (by omega)
    have := gM_K hS (n := mbf r l f p) (l := l) (by omega) (by omega) 40 (Nat.le_refl _)
    split <;> omega
theorem rUd_f : ∀ (d e0 : Nat), rUd r l f d e0 = false → ∀ e, e0 ≤ e → e < e0 + d → rDn r l f e (vf r l 1) < vf r l 2 := by
  intro d
  induction d with
  | zero => intro e0 _ e h1 h2; omega
  | succ d ih =>
    intro e0 h e h1 h2
    rw [rUd_s, Bool.or_eq_false_iff, decide_eq_false_iff_not] at h
    by_cases hq : e = e0
    · rw [hq]; omega
    · exact ih (e0 + 1) h.2 e (by omega) (by omega)
theorem rDn_mod {k : Nat} : rDn r l f e k = rDn r l f (e % vf r l 0) k := by
  unfold rDn
  refine cnt_congr (fun i _ => ?_)
  rw [show (e + i) % vf r l 0 = (e % vf r l 0 + i) % vf r l 0 from by rw [Nat.mod_add_mod]]
theorem rSrc_no : ∀ (d i : Nat), rSrc r l e f d i = none → ∀ j, i ≤ j → j < i + d → ¬ (r (3 + mbf r l f ((e + j) % vf r l 0)) = 1 ∧ r (819 + 160 * mbf r l f ((e + j) % vf r l 0) + 40 * l + e) ≠ 0) := by
  intro d
  induction d with
  | zero => intro i _ j h1 h2; omega
  | succ d ih =>
    intro i h j h1 h2
    rw [rSrc_s] at h
    split at h
    · cases h
    · rename_i hq
      by_cases hj : j = i
      · rw [hj]; exact hq
      · exact ih (i + 1) h j (by omega) (by omega)
theorem pc_sub {m k : Nat} (hm : m < 256) (hk : k < 256) : pc (m &&& k) ≤ pc k := (show ∀ m < 256, ∀ k < 256, pc (m &&& k) ≤ pc k by decide +kernel) m hm k hk
theorem not_bit {u n : Nat} (hn : n < 8) : (u ^^^ 255).testBit n = !u.testBit n := by
  rw [Nat.testBit_xor, (show ∀ n < 8, (255 : Nat).testBit n = true by decide) n hn, Bool.xor_true]
theorem qrm (hI : Inv r nc lc) (hl : l < lc) (hK : YK r l) (hf : f + 1 = vf r l 6) (hud : rUd r l f (vf r l 0) 0 = false) (he : vf r l (87 + f) ≤ e) (hs : rSrc r l e (frg r l e) (vf r l 1) 0 = none) : rCf r l ≤ e := by
  have h8 := hI.1
  have h4 := hI.2.1
  have hL := inv_l hI hl
  have hE := hL.2.1
  have h40 := hL.2.2.2.2.2.1
  have hF := hL.2.2.2.2.2.2.1
  refine Nat.le_of_not_lt fun hlt => ?_
  have he4 : e < vf r l 4 := Nat.lt_of_lt_of_le hlt rCf_le
  have hA : vf r l 2 ≤ pc (vf r l (47 + e)) := of_decide_eq_true (lead_q (q := fun e => decide (vf r l 2 ≤ pc (vf r l (47 + e)))) (vf r l 4) 0 e (Nat.zero_le _) hlt)
  have ha := hL.2.2.2.2.2.2.2.2.2.2.2.2.1 e he4
  have hfr : frg r l e = f := by
    show rFr (fun f => vf r l (87 + f)) e (vf r l 6) = f
    rw [← hf]
    show (if vf r l (87 + f) ≤ e then f else _) = f
    rw [if_pos he]
  rw [hfr] at hs
  have hdn : rDn r l f e (vf r l 1) < vf r l 2 := by
    rw [rDn_mod]
    exact rUd_f _ 0 hud _ (Nat.zero_le _) (by rw [Nat.zero_add]; exact Nat.mod_lt _ (by omega))
  rw [← dn_pc hL h8 (by omega)] at hdn
  have hws : wsM r l f e < 256 := orB_lt (fun i _ => Nat.lt_of_lt_of_le (ws_lt hL (by omega)) h8)
  have hall : vf r l (47 + e) &&& (wsM r l f e &&& (upM r nc ^^^ 255)) = vf r l (47 + e) := by
    apply Nat.eq_of_testBit_eq
    intro n
    rw [Nat.testBit_and, Nat.testBit_and]
    by_cases hb : (vf r l (47 + e)).testBit n = true
    · have hn : n < 8 := by
        refine Nat.lt_of_not_le fun hn => ?_
        rw [Nat.testBit_lt_two_pow (Nat.lt_of_lt_of_le ha (Nat.pow_le_pow_right (n := 2) (by omega) hn))] at hb
        cases hb
      obtain ⟨hst, hw⟩ := hK e n he4 hn hb
      rw [hfr] at hw
      obtain ⟨i, hi, hin⟩ := orB_bit.mp hw
      have hno := rSrc_no _ 0 hs i (Nat.zero_le _) (by omega)
      rw [show mbf r l f ((e + i) % vf r l 0) = n from hin] at hno
      have hup : (upM r nc).testBit n = false := by
        refine Bool.eq_false_iff.mpr fun q => ?_
        have := of_decide_eq_true (mkM_bit.mp q).2
        exact hno ⟨this, hst⟩
      rw [hb, hw, not_bit hn, hup]
      rfl
    · rw [Bool.eq_false_iff.mpr hb, Bool.false_and]
  have hx : wsM r l f e &&& (upM r nc ^^^ 255) < 256 := Nat.lt_of_le_of_lt Nat.and_le_left hws
  have := pc_sub (m := vf r l (47 + e)) ha hx
  rw [hall] at this
  omega
end QRM

