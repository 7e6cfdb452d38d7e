/-! createLedger: the choice of its nodes -/
section CRE
variable {M : Mem} {B a nc lc l : Nat} {r : Nat → Int32}
/-- what the class's choice reads -/
def Ch (B : Nat) (M : Mem) (r : Nat → Int32) (nc : Nat) : Prop := gF M B 0 = nI nc ∧ nc ≤ 8 ∧ (∀ n, n < nc → gF M (B + 3 + 3 * n) 0 = r (3 + n) ∧ gF M (B + 3 + 3 * n) 2 = nI (rW r n 160)) ∧ ∀ n, n < nc → r (3 + n) = 0 ∨ r (3 + n) = 1
theorem Ch.of (hR : RC B r M) (hI : Inv r nc lc) : Ch B M r nc := ⟨rc_nc hR hI, hI.1, fun n hn => ⟨(rc_n hR hI hn).1, (rc_n hR hI hn).2.2.1⟩, fun n hn => up01 hI hn⟩
theorem Ch.mem {M' : Mem} (h : Ch B M r nc) (h0 : gF M' B 0 = gF M B 0) (hn : ∀ n, n < 8 → gF M' (B + 3 + 3 * n) = gF M (B + 3 + 3 * n)) : Ch B M' r nc :=
  ⟨h0.trans h.1, h.2.1, fun n hn' => by rw [hn n (by have := h.2.1; omega)]; exact h.2.2.1 n hn', h.2.2.2⟩
theorem wchoose_loop (hC : Ch B M r nc) {S : Nat} (hS : S < 256) : ∀ (d k g : Nat), k + d = nc → d < g → m_X3_choose_L7 B (nI S) M g (on1 (rCh r S k)) (lst r (rCh r S k)) (nI k) = some (on1 (rCh r S nc)) := by
  have h8 := hC.2.1
  intro d
  induction d with
  | zero =>
    intro k g h1 h2
    obtain ⟨g, rfl⟩ : ∃ k, g = k + 1 := ⟨g - 1, by omega⟩
    rw [m_X3_choose_L7_s, hC.1, if_pos (nI_le (by omega) (by omega)), show k = nc by omega]
  | succ d ih =>
    intro k g h1 h2
    obtain ⟨g, rfl⟩ : ∃ k, g = k + 1 := ⟨g - 1, by omega⟩
    have hk : k < nc := by omega
    have hi := ih (k + 1) g (by omega) (by omega)
    have hn := hC.2.2.1 k hk
    rw [m_X3_choose_L7_s, hC.1, if_neg (nI_ge (by omega) (by omega)), node_of hC.1 h8 hk, bind_s]
    show (if gF M (B + 3 + 3 * k) 0 = 0 then _ else _) = _
    rw [hn.1, contains_ok hS (by omega), hn.2, nI_1]
    rw [rCh_s] at hi
    rcases hC.2.2.2 k hk with h0 | h0
    · rw [h0, if_pos rfl]
      rw [h0, if_neg (fun q => absurd q.1 (by decide))] at hi
      exact hi
    · rw [h0, if_neg (by decide)]
      cases hs : S.testBit k with
      | true =>
        rw [if_neg (fun q => by rw [hs] at q; exact absurd q.2.1 (by decide))] at hi
        rw [if_pos rfl, if_neg (show ¬ (1 : Int32) = 0 by decide)]
        exact hi
      | false =>
        rw [if_neg (show ¬ (false = true) by decide), if_pos (show (0 : Int32) = 0 from rfl)]
        cases hc : rCh r S k with
        | none =>
          rw [if_pos ⟨h0, hs, by rw [hc]; rfl⟩] at hi
          rw [if_pos (show on1 none = -1 from rfl)]
          exact hi
        | some b =>
          have hb := rCh_lt k b hc
          have hwb := rW_le (r := r) (n := b) (k := 160)
          have hwk := rW_le (r := r) (n := k) (k := 160)
          rw [if_neg (show ¬ on1 (some b) = -1 from nI_m1 (by omega)), show lst r (some b) = nI (rW r b 160) from rfl]
          by_cases hl : rW r k 160 < rW r b 160
          · rw [if_pos ⟨h0, hs, by rw [hc]; exact decide_eq_true hl⟩] at hi
            rw [if_neg (nI_ge hl (by omega))]
            exact hi
          · rw [if_neg (fun q => by rw [hc] at q; exact hl (of_decide_eq_true q.2.2)), hc] at hi
            rw [if_pos (nI_le (by omega) (by omega))]
            exact hi
theorem wchoose_ok (hC : Ch B M r nc) {S : Nat} (hS : S < 256) : m_X3_choose B (nI S) M = some (on1 (rCh r S nc)) := wchoose_loop hC hS nc 0 fuel (by omega) (by have := hC.2.1; unfold fuel; omega)
theorem rCh_congr {r' : Nat → Int32} {S : Nat} (h : ∀ i, 3 ≤ i → i < 2131 → r' i = r i) : ∀ k, k ≤ 8 → rCh r' S k = rCh r S k := by
  have hw : ∀ k, k < 8 → rW r' k 160 = rW r k 160 := fun k hk => rW_congr (fun j hj => h _ (by omega) (by omega))
  intro k
  induction k with
  | zero => intro _; rfl
  | succ k ih =>
    intro hk
    rw [rCh_s, rCh_s, ih (by omega), h (3 + k) (by omega) (by omega)]
    have hl : lighter r' k (rCh r S k) = lighter r k (rCh r S k) := by
      cases hc : rCh r S k with
      | none => rfl
      | some b =>
        have hb := rCh_lt k b hc
        show decide (_ < _) = decide (_ < _)
        rw [hw k (by omega), hw b (by omega)]
    rw [hl]
/-- while fewer nodes are taken than are up, one can be chosen -/
theorem rCh_some {g : Nat → Nat} {k : Nat} (h8 : nc ≤ 8) (hg : ∀ i, i < k → g i < 8) (hd : ∀ i j, i < j → j < k → g i ≠ g j) (hk : k < pc (upM r nc)) : ∃ n, rCh r (orB g k) nc = some n := by
  cases hc : rCh r (orB g k) nc with
  | some n => exact ⟨n, rfl⟩
  | none =>
    have hs : orB g k &&& upM r nc = upM r nc := by
      refine Nat.eq_of_testBit_eq fun j => ?_
      rw [Nat.testBit_and]
      cases hu : (upM r nc).testBit j with
      | false => simp
      | true =>
        have hm := mkM_bit.mp hu
        rw [rCh_none nc hc j hm.1 (of_decide_eq_true hm.2)]
        rfl
    have h1 := pc_and (S := upM r nc) hg hd
    rw [hs] at h1
    have h2 := cnt_le (q := fun i => (upM r nc).testBit (g i)) (k := k)
    omega
theorem upM_pc (hI : Inv (gR M 4) nc lc) : ∀ (d k g : Nat), k + d = nc → d < g → m_X6_ups_L4 3 M g (nI (pc (upM (gR M 4) k))) (nI k) = some (nI (pc (upM (gR M 4) nc))) := by
  have h8 := hI.1
  intro d
  induction d with
  | zero =>
    intro k g h1 h2
    obtain ⟨g, rfl⟩ : ∃ k, g = k + 1 := ⟨g - 1, by omega⟩
    rw [m_X6_ups_L4_s, ck_0 (by omega), cl_0, hI.2.2.1, if_pos (nI_le (by omega) (by omega)), show k = nc by omega]
  | succ d ih =>
    intro k g h1 h2
    obtain ⟨g, rfl⟩ : ∃ k, g = k + 1 := ⟨g - 1, by omega⟩
    have hi := ih (k + 1) g (by omega) (by omega)
    rw [show upM (gR M 4) (k + 1) = if decide (gR M 4 (3 + k) = 1) = true then upM (gR M 4) k ||| 2 ^ k else upM (gR M 4) k from rfl] at hi
    rw [m_X6_ups_L4_s, ck_0 (by omega), cl_0, hI.2.2.1, if_neg (nI_ge (by omega) (by omega)), Ln 3, nI_add, ck_ix (by omega) (by omega), cl_nI (by omega), nI_1]
    rcases up01 hI (show k < nc by omega) with h0 | h0
    · rw [h0, Int32.add_zero]
      rw [h0, if_neg (by decide)] at hi
      exact hi
    · rw [h0, nI_1]
      rw [h0, if_pos (by decide), pc_add (mkM_lt (by omega)) (by omega) (by
        cases hb : (upM (gR M 4) k).testBit k with
        | false => rfl
        | true => exact absurd (mkM_bit.mp hb).1 (by omega))] at hi
      exact hi
theorem ups_ok (hI : Inv (gR M 4) nc lc) : m_X6_ups 3 M = some (nI (pc (upM (gR M 4) nc))) := by
  have h := upM_pc hI nc 0 fuel (by omega) (by have := hI.1; unfold fuel; omega)
  rw [show upM (gR M 4) 0 = 0 from rfl, show pc 0 = 0 by decide] at h
  exact h
/-- the class's mask of an ensemble of which k nodes are chosen -/
theorem pens_loop {g : Nat → Nat} {E k : Nat} (hE : E ≤ 5) (hk : k ≤ E) (h1 : gF M a 1 = nI E) (hm : ∀ p, p < E → gR M (a + 4) p = if p < k then nI (g p) else -1) (h8 : ∀ p, p < k → g p < 8) : ∀ (d p f : Nat), p + d = E → d < f → m_X0_ensembleMask_L4 a (nI 0) M f (nI (orB g (if p < k then p else k))) (nI p) = some (nI (orB g k)) := by
  intro d
  induction d with
  | zero =>
    intro p f h2 h3
    obtain ⟨f, rfl⟩ : ∃ k, f = k + 1 := ⟨f - 1, by omega⟩
    rw [m_X0_ensembleMask_L4_s, h1, if_pos (nI_le (by omega) (by omega)), if_neg (by omega)]
  | succ d ih =>
    intro p f h2 h3
    obtain ⟨f, rfl⟩ : ∃ k, f = k + 1 := ⟨f - 1, by omega⟩
    have hi := ih (p + 1) f (by omega) (by omega)
    have hna : m_X0_nodeAt a (nI 0) (nI p) M = some (gR M (a + 4) p) := by
      unfold m_X0_nodeAt
      rw [place_ok (by omega) (by omega), if_neg (nI_pos (by omega)), Ln 205, if_pos (nI_lt (by omega) (by omega)), ck_ix (by omega) (by omega), cl_nI (by omega), Nat.mul_zero, Nat.zero_add]
    rw [m_X0_ensembleMask_L4_s, h1, if_neg (nI_ge (by omega) (by omega)), hna, bind_s, hm p (by omega), nI_1]
    by_cases hp : p < k
    · rw [if_pos hp, if_pos hp, maskOf_ok (h8 p hp), or_nI]
      by_cases hp1 : p + 1 < k
      · rw [if_pos hp1] at hi
        exact hi
      · rw [if_neg hp1, show k = p + 1 by omega] at hi
        rw [show k = p + 1 by omega]
        exact hi
    · rw [if_neg hp, if_neg hp, show m_X0_maskOf (-1) = 0 from rfl, or0]
      rw [if_neg (by omega)] at hi
      exact hi
theorem pens_ok {g : Nat → Nat} {E k : Nat} (hE : E ≤ 5) (hk : k ≤ E) (h1 : gF M a 1 = nI E) (hm : ∀ p, p < E → gR M (a + 4) p = if p < k then nI (g p) else -1) (h8 : ∀ p, p < k → g p < 8) : m_X0_ensembleMask a (nI 0) M = some (nI (orB g k)) := by
  have h := pens_loop hE hk h1 hm h8 E 0 fuel (by omega) (by unfold fuel; omega)
  have h0 : orB g (if 0 < k then 0 else k) = 0 := by
    split
    · rfl
    · rw [show k = 0 by omega]; rfl
  rw [h0] at h
  exact h
theorem setN_ok {f p : Nat} {v : Int32} (hf : f < 41) (hp : p < 5) : m_X0_setNode a (nI f) (nI p) v M = some (sR (a + 4) (upd (gR M (a + 4)) (5 * f + p) v) M) := by
  unfold m_X0_setNode
  rw [place_ok hf hp, if_neg (nI_pos (by omega)), Ln 205, if_neg (nI_ge (by omega) (by omega)), ck_ix (by omega) (by omega), aI_nI (by omega)]
end CRE
