theorem ck_0 {α : Type} {n : Nat} {x : Option α} (h : 0 < n) : ck (ix 0 n) x = x := ck_ix (k := 0) h (by omega)
theorem cl_0 : cl 0 = 0 := rfl
/-! the lightest node that is up and not of a set -/
def lighter (r : Nat → Int32) (k : Nat) : Option Nat → Bool
  | none => true
  | some b => decide (rW r k 160 < rW r b 160)
def rCh (r : Nat → Int32) (S : Nat) : Nat → Option Nat
  | 0 => none
  | k + 1 => if r (3 + k) = 1 ∧ S.testBit k = false ∧ lighter r k (rCh r S k) = true then some k else rCh r S k
theorem rCh_s {r : Nat → Int32} {S k : Nat} : rCh r S (k + 1) = if r (3 + k) = 1 ∧ S.testBit k = false ∧ lighter r k (rCh r S k) = true then some k else rCh r S k := rfl
def on1 : Option Nat → Int32
  | none => -1
  | some k => nI k
theorem rCh_lt {r : Nat → Int32} {S : Nat} : ∀ (k b : Nat), rCh r S k = some b → b < k ∧ r (3 + b) = 1 ∧ S.testBit b = false := by
  intro k
  induction k with
  | zero => intro b h; cases h
  | succ k ih =>
    intro b h
    unfold rCh at h
    split at h
    · rename_i hq
      cases h
      exact ⟨Nat.lt_succ_self _, hq.1, hq.2.1⟩
    · have := ih b h
      exact ⟨by omega, this.2⟩
theorem rCh_none {r : Nat → Int32} {S : Nat} : ∀ k, rCh r S k = none → ∀ b, b < k → r (3 + b) = 1 → S.testBit b = true := by
  intro k
  induction k with
  | zero => intro _ b h; omega
  | succ k ih =>
    intro h b hb h1
    unfold rCh at h
    split at h
    · cases h
    · rename_i hq
      rcases Nat.lt_or_ge b k with h3 | h3
      · exact ih h b h3 h1
      · obtain rfl : b = k := by omega
        by_cases hs : S.testBit b = true
        · exact hs
        · exact absurd ⟨h1, by simpa using hs, by rw [h]; rfl⟩ hq
section RD4
variable {M : Mem} {l e f : Nat}
theorem choose_loop {S nc : Nat} (hS : S < 256) (hn : gR M 4 0 = nI nc) (h8 : nc ≤ 8) : ∀ (d k g : Nat), k + d = nc → d < g → m_X6_choose_L4 3 (nI S) M g (on1 (rCh (gR M 4) S k)) (nI k) = some (on1 (rCh (gR M 4) S nc)) := by
  intro d
  induction d with
  | zero =>
    intro k g h1 h2
    obtain ⟨g, rfl⟩ : ∃ k, g = k + 1 := ⟨g - 1, by omega⟩
    rw [m_X6_choose_L4_s, ck_0 (by omega), cl_0, hn, if_pos (nI_le (by omega) (by omega)), show k = nc by omega]
  | succ d ih =>
    intro k g h1 h2
    obtain ⟨g, rfl⟩ : ∃ k, g = k + 1 := ⟨g - 1, by omega⟩
    have hi := ih (k + 1) g (by omega) (by omega)
    have hw := rW_le (r := gR M 4) (n := k) (k := 160)
    rw [m_X6_choose_L4_s, ck_0 (by omega), cl_0, hn, if_neg (nI_ge (by omega) (by omega)), isUp_ok (by omega), bind_s]
    rw [rCh_s] at hi
    by_cases hu : gR M 4 (3 + k) = 1
    · rw [if_pos hu, if_neg (show ¬ (1 : Int32) = 0 by decide), has_ok hS (by omega)]
      cases hs : S.testBit k with
      | true =>
        rw [if_neg (fun q => by rw [hs] at q; exact absurd q.2.1 (by decide))] at hi
        rw [if_pos rfl, if_neg (show ¬ (1 : Int32) = 0 by decide)]
        unfold m_X6_choose_b53
        rw [if_pos rfl, nI_1]
        exact hi
      | false =>
        rw [if_neg (show ¬ (false = true) by decide), if_pos (show (0 : Int32) = 0 from rfl)]
        cases hc : rCh (gR M 4) S k with
        | none =>
          rw [if_pos ⟨hu, hs, by rw [hc]; rfl⟩] at hi
          rw [if_pos (show on1 none = -1 from rfl)]
          unfold m_X6_choose_b53
          rw [if_neg (by decide), nI_1]
          exact hi
        | some b =>
          have hb := rCh_lt k b hc
          have hwb := rW_le (r := gR M 4) (n := b) (k := 160)
          rw [if_neg (show ¬ on1 (some b) = -1 from nI_m1 (by omega)), weightOf_ok (by omega), bind_s, show on1 (some b) = nI b from rfl, weightOf_ok (by omega), bind_s]
          by_cases hl : rW (gR M 4) k 160 < rW (gR M 4) b 160
          · rw [if_pos ⟨hu, hs, by rw [hc]; exact decide_eq_true hl⟩] at hi
            rw [if_neg (nI_ge hl (by omega))]
            unfold m_X6_choose_b53
            rw [if_neg (by decide), nI_1]
            exact hi
          · rw [if_neg (fun q => by rw [hc] at q; exact hl (of_decide_eq_true q.2.2)), hc] at hi
            rw [if_pos (nI_le (by omega) (by omega))]
            unfold m_X6_choose_b53
            rw [if_pos rfl, nI_1]
            exact hi
    · rw [if_neg hu, if_pos (show (0 : Int32) = 0 from rfl)]
      rw [if_neg (fun q => hu q.1)] at hi
      unfold m_X6_choose_b53
      rw [if_pos rfl, nI_1]
      exact hi
theorem choose_ok {S nc : Nat} (hS : S < 256) (hn : gR M 4 0 = nI nc) (h8 : nc ≤ 8) : m_X6_choose 3 (nI S) M = some (on1 (rCh (gR M 4) S nc)) := choose_loop hS hn h8 nc 0 fuel (by omega) (by unfold fuel; omega)
end RD4
