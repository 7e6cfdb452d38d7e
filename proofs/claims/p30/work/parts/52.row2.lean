/-! counts, fragments, the last confirmed entry -/
theorem cl_lt {x : Int32} : cl x < 2147483648 := by
  have := Int32.toInt_lt x
  show x.toInt.toNat < 2147483648
  omega
def pc (m : Nat) : Nat := m % 2 + m / 2 % 2 + m / 4 % 2 + m / 8 % 2 + m / 16 % 2 + m / 32 % 2 + m / 64 % 2 + m / 128 % 2
theorem pc_le {m : Nat} : pc m ≤ 8 := by unfold pc; omega
theorem count_ok {m : Nat} (h : m < 256) : m_X6_count (nI m) = some (nI (pc m)) := (show ∀ m < 256, m_X6_count (nI m) = some (nI (pc m)) by decide +kernel) m h
theorem bitc_ok {m : Nat} (h : m < 256) : m_J6_bitCount_0f7a4 (nI m) = nI (pc m) := (show ∀ m < 256, m_J6_bitCount_0f7a4 (nI m) = nI (pc m) by decide +kernel) m h
/-- the greatest f below k with st f ≤ e -/
def rFr (st : Nat → Nat) (e : Nat) : Nat → Nat
  | 0 => 0
  | k + 1 => if st k ≤ e then k else rFr st e k
theorem rFr_lt {st : Nat → Nat} {e k : Nat} (h : 0 < k) : rFr st e k < k := by
  induction k with
  | zero => omega
  | succ k ih =>
    unfold rFr
    split
    · omega
    · rcases Nat.eq_zero_or_pos k with rfl | hk
      · exact Nat.lt_succ_self _
      · have := ih hk
        omega
theorem rFr_mono {st : Nat → Nat} {F : Nat} (h : ∀ f, f + 1 < F → st f < st (f + 1)) : ∀ (g f : Nat), f ≤ g → g < F → st f ≤ st g := by
  intro g
  induction g with
  | zero => intro f h1 _; rw [Nat.le_zero.mp h1]; exact Nat.le_refl _
  | succ g ih =>
    intro f h1 h2
    rcases Nat.lt_or_ge f (g + 1) with h3 | h3
    · exact Nat.le_of_lt (Nat.lt_of_le_of_lt (ih f (by omega) (by omega)) (h g h2))
    · rw [show f = g + 1 by omega]; exact Nat.le_refl _
/-- where it is f: st f ≤ e < st (f + 1) -/
theorem rFr_eq {st : Nat → Nat} {e F f : Nat} (hm : ∀ f, f + 1 < F → st f < st (f + 1)) (hf : f < F) (h1 : st f ≤ e) (h2 : f + 1 < F → e < st (f + 1)) : rFr st e F = f := by
  have key : ∀ k, f < k → k ≤ F → rFr st e k = f := by
    intro k
    induction k with
    | zero => intro h _; omega
    | succ k ih =>
      intro hk hF
      unfold rFr
      rcases Nat.lt_or_ge f k with h3 | h3
      · have h4 := rFr_mono hm k (f + 1) (by omega) (by omega)
        have h5 := h2 (by omega)
        rw [if_neg (by omega)]
        exact ih h3 (by omega)
      · rw [show k = f by omega, if_pos h1]
  exact key F hf (Nat.le_refl _)
abbrev vf (r : Nat → Int32) (l w : Nat) : Nat := cl (r (2131 + 333 * l + w))
/-- a ledger's cells but the last entry's are no negative numbers -/
def NN (r : Nat → Int32) (l : Nat) : Prop := ∀ w, w < 333 → w ≠ 5 → r (2131 + 333 * l + w) = nI (vf r l w)
section RD2
variable {M : Mem} {l e : Nat}
theorem fragOf_loop (hl : l < 4) (hN : NN (gR M 4) l) (hF : vf (gR M 4) l 6 ≤ 41) (hm : ∀ f, f + 1 < vf (gR M 4) l 6 → vf (gR M 4) l (87 + f) < vf (gR M 4) l (87 + (f + 1))) (he : e < 2147483648) : ∀ (d f g : Nat), f + d = vf (gR M 4) l 6 → 1 ≤ d → d < g → vf (gR M 4) l (87 + f) ≤ e → m_X6_fragmentOf_L2 3 (nI l) (nI e) M g (nI f) = some (nI (rFr (fun f => vf (gR M 4) l (87 + f)) e (vf (gR M 4) l 6))) := by
  intro d
  induction d with
  | zero => intro f g _ h; omega
  | succ d ih =>
    intro f g h1 h2 h3 h4
    obtain ⟨g, rfl⟩ : ∃ k, g = k + 1 := ⟨g - 1, by omega⟩
    rw [m_X6_fragmentOf_L2_s, Ln 6, of_ok (by omega), bind_s, hN 6 (by omega) (by omega), nI_1]
    by_cases hd : d = 0
    · rw [if_pos (nI_le (by omega) (by omega)), rFr_eq (f := f) hm (by omega) h4 (fun q => by omega)]
    · rw [if_neg (nI_ge (by omega) (by omega)), Ln 87, nI_add, nI_1, of_ok (by omega), bind_s, Nat.add_assoc 87 f 1, hN (87 + (f + 1)) (by omega) (by omega)]
      by_cases hq : e < vf (gR M 4) l (87 + (f + 1))
      · rw [if_pos (nI_lt hq cl_lt), rFr_eq (f := f) hm (by omega) h4 (fun _ => hq)]
      · rw [if_neg (nI_nlt (by omega) he)]
        exact ih (f + 1) g (by omega) (by omega) (by omega) (by omega)
theorem fragOf_ok (hl : l < 4) (hN : NN (gR M 4) l) (h1 : 1 ≤ vf (gR M 4) l 6) (hF : vf (gR M 4) l 6 ≤ 41) (h0 : vf (gR M 4) l 87 = 0) (hm : ∀ f, f + 1 < vf (gR M 4) l 6 → vf (gR M 4) l (87 + f) < vf (gR M 4) l (87 + (f + 1))) (he : e < 2147483648) : m_X6_fragmentOf 3 (nI l) (nI e) M = some (nI (rFr (fun f => vf (gR M 4) l (87 + f)) e (vf (gR M 4) l 6))) :=
  fragOf_loop hl hN hF hm he (vf (gR M 4) l 6) 0 fuel (by omega) h1 (by unfold fuel; omega) (by rw [Nat.add_zero, h0]; exact Nat.zero_le _)
/-- how many of the first entries satisfy q, one after another -/
def lead (q : Nat → Bool) : Nat → Nat → Nat
  | 0, e => e
  | n + 1, e => if q e then lead q n (e + 1) else e
theorem lead_le {q : Nat → Bool} : ∀ (n e : Nat), e ≤ lead q n e ∧ lead q n e ≤ e + n := by
  intro n
  induction n with
  | zero => intro e; exact ⟨Nat.le_refl _, Nat.le_refl _⟩
  | succ n ih =>
    intro e
    unfold lead
    have := ih (e + 1)
    split <;> omega
theorem lead_q {q : Nat → Bool} : ∀ (n e k : Nat), e ≤ k → k < lead q n e → q k = true := by
  intro n
  induction n with
  | zero => intro e k h1 h2; unfold lead at h2; omega
  | succ n ih =>
    intro e k h1 h2
    unfold lead at h2
    by_cases hq : q e = true
    · rw [if_pos hq] at h2
      rcases Nat.lt_or_ge e k with h | h
      · exact ih (e + 1) k h h2
      · rw [show k = e by omega]; exact hq
    · rw [if_neg hq] at h2; omega
theorem lead_ge {q : Nat → Bool} : ∀ (n e m : Nat), m ≤ e + n → (∀ k, e ≤ k → k < m → q k = true) → m ≤ lead q n e ∨ m ≤ e := by
  intro n
  induction n with
  | zero => intro e m h _; exact Or.inr (by omega)
  | succ n ih =>
    intro e m h hq
    unfold lead
    rcases Nat.lt_or_ge e m with h1 | h1
    · rw [if_pos (hq e (Nat.le_refl _) h1)]
      rcases ih (e + 1) m (by omega) (fun k h2 h3 => hq k (by omega) h3) with h2 | h2
      · exact Or.inl h2
      · have := (lead_le (q := q) n (e + 1)).1
        exact Or.inl (by omega)
    · exact Or.inr h1
/-- the last confirmed entry, and one -/
def rCf (r : Nat → Int32) (l : Nat) : Nat := lead (fun e => decide (vf r l 2 ≤ pc (vf r l (47 + e)))) (vf r l 4) 0
theorem conf_loop (hl : l < 4) (hN : NN (gR M 4) l) (h40 : vf (gR M 4) l 4 ≤ 40) (hA : vf (gR M 4) l 2 ≤ 5) (hk : ∀ e, e < vf (gR M 4) l 4 → vf (gR M 4) l (47 + e) < 256) : ∀ (d e g : Nat), e + d = vf (gR M 4) l 4 → d < g → m_X6_confirmed_L2 3 (nI l) M g (nI e) = some (nI (lead (fun e => decide (vf (gR M 4) l 2 ≤ pc (vf (gR M 4) l (47 + e)))) d e) - 1) := by
  intro d
  induction d with
  | zero =>
    intro e g h1 h2
    obtain ⟨g, rfl⟩ : ∃ k, g = k + 1 := ⟨g - 1, by omega⟩
    rw [m_X6_confirmed_L2_s, Ln 4, of_ok (by omega), bind_s, hN 4 (by omega) (by omega), if_pos (nI_le (by omega) (by omega))]
    rfl
  | succ d ih =>
    intro e g h1 h2
    obtain ⟨g, rfl⟩ : ∃ k, g = k + 1 := ⟨g - 1, by omega⟩
    have hp := pc_le (m := vf (gR M 4) l (47 + e))
    rw [m_X6_confirmed_L2_s, Ln 4, of_ok (by omega), bind_s, hN 4 (by omega) (by omega), if_neg (nI_ge (by omega) (by omega)), Ln 47, nI_add, of_ok (by omega), bind_s, hN (47 + e) (by omega) (by omega), count_ok (hk e (by omega)), bind_s, Ln 2, of_ok (by omega), bind_s, hN 2 (by omega) (by omega)]
    unfold lead
    by_cases hq : pc (vf (gR M 4) l (47 + e)) < vf (gR M 4) l 2
    · rw [if_pos (nI_lt hq (by omega)), if_neg (by simpa using hq)]
    · rw [if_neg (nI_nlt (by omega) (by omega)), if_pos (by simpa using hq), nI_1]
      exact ih (e + 1) g (by omega) (by omega)
theorem conf_ok (hl : l < 4) (hN : NN (gR M 4) l) (h40 : vf (gR M 4) l 4 ≤ 40) (hA : vf (gR M 4) l 2 ≤ 5) (hk : ∀ e, e < vf (gR M 4) l 4 → vf (gR M 4) l (47 + e) < 256) : m_X6_confirmed 3 (nI l) M = some (nI (rCf (gR M 4) l) - 1) := conf_loop hl hN h40 hA hk (vf (gR M 4) l 4) 0 fuel (by omega) (by unfold fuel; omega)
end RD2
