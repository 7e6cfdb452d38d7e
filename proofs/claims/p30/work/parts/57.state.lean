/-! what the class's state and its nodes answer, by the row -/
section STA
variable {M : Mem} {B a l nc lc n e f p i k : Nat} {r : Nat → Int32}
theorem rc_nc (hR : RC B r M) (hI : Inv r nc lc) : gF M B 0 = nI nc := by rw [hR.1, hI.2.2.1]
theorem rc_lc (hR : RC B r M) (hI : Inv r nc lc) : gF M B 1 = nI lc := by rw [hR.2.1, hI.2.2.2.1]
theorem rc_n (hR : RC B r M) (hI : Inv r nc lc) (h : n < nc) : CN M (B + 3 + 3 * n) r n := hR.2.2.2.1 n (by rw [hI.2.2.1, cl_nI (by have := hI.1; omega)]; exact h)
theorem rc_l (hR : RC B r M) (hI : Inv r nc lc) (h : l < lc) : CL M (B + 27 + 5 * l) r l := hR.2.2.2.2 l (by rw [hI.2.2.2.1, cl_nI (by have := hI.2.1; omega)]; exact h)
theorem inv_n (hI : Inv r nc lc) (h : n < nc) : NIv r lc n := hI.2.2.2.2.1 n h
theorem inv_l (hI : Inv r nc lc) (h : l < lc) : LI r nc l := hI.2.2.2.2.2.2.1 l h
theorem node_ok (hR : RC B r M) (hI : Inv r nc lc) (h : n < nc) : m_X3_node B (nI n) M = some (some (B + 3 + 3 * n)) := by
  have h8 := hI.1
  unfold m_X3_node
  rw [rc_nc hR hI, if_neg (nI_pos (by omega)), if_neg (nI_ge h (by omega)), Ln 8, if_pos (nI_lt (by omega) (by omega)), ck_ix (by omega) (by omega), cl_nI (by omega)]
theorem node_no (hR : RC B r M) (hI : Inv r nc lc) {x : Int32} (h : x < 0 ∨ nI nc ≤ x) : m_X3_node B x M = some none := by
  unfold m_X3_node
  rw [rc_nc hR hI]
  by_cases h0 : x < 0
  · rw [if_pos h0]
  · rw [if_neg h0, if_pos (h.resolve_left h0)]
theorem ledger_ok (hR : RC B r M) (hI : Inv r nc lc) (h : l < lc) : m_X3_ledger B (nI l) M = some (some (B + 27 + 5 * l)) := by
  have h8 := hI.2.1
  unfold m_X3_ledger
  rw [rc_lc hR hI, if_neg (nI_pos (by omega)), if_neg (nI_ge h (by omega)), Ln 4, if_pos (nI_lt (by omega) (by omega)), ck_ix (by omega) (by omega), cl_nI (by omega)]
theorem ledger_no (hR : RC B r M) (hI : Inv r nc lc) {x : Int32} (h : x < 0 ∨ nI lc ≤ x) : m_X3_ledger B x M = some none := by
  unfold m_X3_ledger
  rw [rc_lc hR hI]
  by_cases h0 : x < 0
  · rw [if_pos h0]
  · rw [if_neg h0, if_pos (h.resolve_left h0)]
theorem up01 (hI : Inv r nc lc) (h : n < nc) : r (3 + n) = 0 ∨ r (3 + n) = 1 := (inv_n hI h).1
theorem cisUp_ok (hR : RC B r M) (hI : Inv r nc lc) (h : n < nc) : m_X3_isUp B (nI n) M = some (r (3 + n)) := by
  unfold m_X3_isUp
  rw [node_ok hR hI h, bind_s]
  show (if gF M (B + 3 + 3 * n) 0 = 0 then some 0 else some 1) = _
  rw [(rc_n hR hI h).1]
  rcases up01 hI h with h0 | h0
  · rw [h0, if_pos rfl]
  · rw [h0, if_neg (by decide)]
/-- the mask of the nodes below k that satisfy q -/
def mkM (q : Nat → Bool) : Nat → Nat
  | 0 => 0
  | k + 1 => if q k then mkM q k ||| 2 ^ k else mkM q k
theorem mkM_bit {q : Nat → Bool} {k n : Nat} : (mkM q k).testBit n = true ↔ n < k ∧ q n = true := by
  induction k with
  | zero => simp [mkM]
  | succ k ih =>
    unfold mkM
    by_cases hq : q k = true
    · rw [if_pos hq, Nat.testBit_or, Bool.or_eq_true, ih, Nat.testBit_two_pow, decide_eq_true_eq]
      constructor
      · rintro (⟨h1, h2⟩ | h)
        · exact ⟨by omega, h2⟩
        · subst h; exact ⟨by omega, hq⟩
      · rintro ⟨h1, h2⟩
        rcases Nat.lt_or_ge n k with h | h
        · exact Or.inl ⟨h, h2⟩
        · exact Or.inr (by omega)
    · rw [if_neg hq, ih]
      constructor
      · rintro ⟨h1, h2⟩; exact ⟨by omega, h2⟩
      · rintro ⟨h1, h2⟩
        rcases Nat.lt_or_ge n k with h | h
        · exact ⟨h, h2⟩
        · rw [show n = k by omega] at h2; exact absurd h2 hq
theorem mkM_lt {q : Nat → Bool} {k : Nat} (h : k ≤ 8) : mkM q k < 256 := by
  induction k with
  | zero => exact (by decide : (0 : Nat) < 256)
  | succ k ih =>
    unfold mkM
    split
    · exact Nat.or_lt_two_pow (n := 8) (ih (by omega)) (Nat.pow_lt_pow_right (by omega) (by omega))
    · exact ih (by omega)
theorem or0 (x : Int32) : x ||| 0 = x := Int32.or_zero
abbrev upM (r : Nat → Int32) (k : Nat) : Nat := mkM (fun n => decide (r (3 + n) = 1)) k
theorem upM_loop (hR : RC B r M) (hI : Inv r nc lc) : ∀ (d k g : Nat), k + d = nc → d < g → m_X3_upMask_L4 B M g (nI (upM r k)) (nI k) = some (nI (upM r nc)) := by
  have h8 := hI.1
  intro d
  induction d with
  | zero =>
    intro k g h1 h2
    obtain ⟨g, rfl⟩ : ∃ k, g = k + 1 := ⟨g - 1, by omega⟩
    rw [m_X3_upMask_L4_s, rc_nc hR hI, if_pos (nI_le (by omega) (by omega)), show k = nc by omega]
  | succ d ih =>
    intro k g h1 h2
    obtain ⟨g, rfl⟩ : ∃ k, g = k + 1 := ⟨g - 1, by omega⟩
    have hi := ih (k + 1) g (by omega) (by omega)
    rw [show upM r (k + 1) = if decide (r (3 + k) = 1) = true then upM r k ||| 2 ^ k else upM r k from rfl] at hi
    rw [m_X3_upMask_L4_s, rc_nc hR hI, if_neg (nI_ge (by omega) (by omega)), cisUp_ok hR hI (by omega), bind_s, nI_1]
    rcases up01 hI (show k < nc by omega) with h0 | h0
    · rw [h0, if_pos rfl, or0]
      rw [h0, if_neg (by decide)] at hi
      exact hi
    · rw [h0, if_neg (by decide), shl1 (by omega), or_nI]
      rw [h0, if_pos (by decide)] at hi
      exact hi
theorem upM_ok (hR : RC B r M) (hI : Inv r nc lc) : m_X3_upMask B M = some (nI (upM r nc)) := upM_loop hR hI nc 0 fuel (by omega) (by have := hI.1; unfold fuel; omega)
/-- the weights' sum -/
def sumW (r : Nat → Int32) : Nat → Nat
  | 0 => 0
  | k + 1 => sumW r k + rW r k 160
theorem sumW_le {r : Nat → Int32} {k : Nat} : sumW r k ≤ 160 * k := by
  induction k with
  | zero => exact Nat.le_refl 0
  | succ k ih =>
    have := rW_le (r := r) (n := k) (k := 160)
    unfold sumW
    omega
/-- least so far -/
def lst (r : Nat → Int32) : Option Nat → Int32
  | none => 0
  | some b => nI (rW r b 160)
theorem cchoose_loop (hR : RC B r M) (hI : Inv r nc lc) {S : Nat} (hS : S < 256) : ∀ (d k g : Nat), k + d = nc → d < g → m_X3_choose_L7 B (nI S) M g (on1 (rCh r S k)) (lst r (rCh r S k)) (nI k) = some (on1 (rCh r S nc)) := by
  have h8 := hI.1
  intro d
  induction d with
  | zero =>
    intro k g h1 h2
    obtain ⟨g, rfl⟩ : ∃ k, g = k + 1 := ⟨g - 1, by omega⟩
    rw [m_X3_choose_L7_s, rc_nc hR hI, if_pos (nI_le (by omega) (by omega)), show k = nc by omega]
  | succ d ih =>
    intro k g h1 h2
    obtain ⟨g, rfl⟩ : ∃ k, g = k + 1 := ⟨g - 1, by omega⟩
    have hk : k < nc := by omega
    have hi := ih (k + 1) g (by omega) (by omega)
    have hC := rc_n hR hI hk
    rw [m_X3_choose_L7_s, rc_nc hR hI, if_neg (nI_ge (by omega) (by omega)), node_ok hR hI hk, bind_s]
    show (if gF M (B + 3 + 3 * k) 0 = 0 then _ else _) = _
    rw [hC.1, contains_ok hS (by omega), hC.2.2.1, nI_1]
    rw [rCh_s] at hi
    rcases up01 hI hk with h0 | h0
    · rw [h0, if_pos rfl]
      rw [h0, if_neg (fun q => absurd q.1 (by decide))] at hi
      exact hi
    · rw [h0, if_neg (by decide)]
      cases hs : S.testBit k with
      | true =>
        rw [if_neg (fun q => by rw [hs] at q; exact absurd q.2.1 (by decide))] at hi
        rw [if_pos rfl, if_neg (show ¬ (1 : Int32) = 0 by decide)]
        exact hi
      | false =>
        rw [if_neg (show ¬ (false = true) by decide), if_pos (show (0 : Int32) = 0 from rfl)]
        cases hc : rCh r S k with
        | none =>
          rw [if_pos ⟨h0, hs, by rw [hc]; rfl⟩] at hi
          rw [if_pos (show on1 none = -1 from rfl)]
          exact hi
        | some b =>
          have hb := rCh_lt k b hc
          have hwb := rW_le (r := r) (n := b) (k := 160)
          have hwk := rW_le (r := r) (n := k) (k := 160)
          rw [if_neg (show ¬ on1 (some b) = -1 from nI_m1 (by omega)), show lst r (some b) = nI (rW r b 160) from rfl]
          by_cases hl : rW r k 160 < rW r b 160
          · rw [if_pos ⟨h0, hs, by rw [hc]; exact decide_eq_true hl⟩] at hi
            rw [if_neg (nI_ge hl (by omega))]
            exact hi
          · rw [if_neg (fun q => by rw [hc] at q; exact hl (of_decide_eq_true q.2.2)), hc] at hi
            rw [if_pos (nI_le (by omega) (by omega))]
            exact hi
theorem cchoose_ok (hR : RC B r M) (hI : Inv r nc lc) {S : Nat} (hS : S < 256) : m_X3_choose B (nI S) M = some (on1 (rCh r S nc)) := cchoose_loop hR hI hS nc 0 fuel (by omega) (by have := hI.1; unfold fuel; omega)
end STA
