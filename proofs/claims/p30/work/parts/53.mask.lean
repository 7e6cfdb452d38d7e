/-! masks of nodes -/
theorem or_nI (a b : Nat) : nI a ||| nI b = nI (a ||| b) := by
  refine Int32.toBitVec_inj.mp ?_
  show BitVec.ofNat 32 a ||| BitVec.ofNat 32 b = BitVec.ofNat 32 (a ||| b)
  apply BitVec.eq_of_getElem_eq
  intro i hi
  simp
theorem and_nI (a b : Nat) : nI a &&& nI b = nI (a &&& b) := by
  refine Int32.toBitVec_inj.mp ?_
  show BitVec.ofNat 32 a &&& BitVec.ofNat 32 b = BitVec.ofNat 32 (a &&& b)
  apply BitVec.eq_of_getElem_eq
  intro i hi
  simp
theorem shl1 {w : Nat} (h : w < 8) : (1 : Int32) <<< (nI w &&& 31) = nI (2 ^ w) := (show ∀ w < 8, (1 : Int32) <<< (nI w &&& 31) = nI (2 ^ w) by decide +kernel) w h
theorem shr_ok {m k : Nat} (hm : m < 256) (hk : k < 8) : (nI m >>> (nI k &&& 31)) &&& 1 = if m.testBit k then 1 else 0 := (show ∀ m < 256, ∀ k < 8, (nI m >>> (nI k &&& 31)) &&& 1 = if m.testBit k then 1 else 0 by decide +kernel) m hm k hk
theorem has_ok {m k : Nat} (hm : m < 256) (hk : k < 8) : m_X6_has (nI m) (nI k) = if m.testBit k then 1 else 0 := by
  unfold m_X6_has
  rw [shr_ok hm hk]
  cases m.testBit k <;> rfl
theorem contains_ok {m k : Nat} (hm : m < 256) (hk : k < 8) : m_X5_contains (nI m) (nI k) = if m.testBit k then 1 else 0 := by
  unfold m_X5_contains
  rw [if_neg (nI_pos (by omega)), shr_ok hm hk]
  cases m.testBit k <;> rfl
/-- the mask of g 0 .. g (k - 1) -/
def orB (g : Nat → Nat) : Nat → Nat
  | 0 => 0
  | k + 1 => orB g k ||| 2 ^ g k
theorem orB_bit {g : Nat → Nat} {k n : Nat} : (orB g k).testBit n = true ↔ ∃ i, i < k ∧ g i = n := by
  induction k with
  | zero => simp [orB]
  | succ k ih =>
    unfold orB
    rw [Nat.testBit_or, Bool.or_eq_true, ih, Nat.testBit_two_pow, decide_eq_true_eq]
    constructor
    · rintro (⟨i, h1, h2⟩ | h)
      · exact ⟨i, by omega, h2⟩
      · exact ⟨k, by omega, h⟩
    · rintro ⟨i, h1, h2⟩
      rcases Nat.lt_or_ge i k with h | h
      · exact Or.inl ⟨i, h, h2⟩
      · rw [show i = k by omega] at h2; exact Or.inr h2
theorem orB_lt {g : Nat → Nat} {k : Nat} (h : ∀ i, i < k → g i < 8) : orB g k < 256 := by
  induction k with
  | zero => exact (by decide : (0 : Nat) < 256)
  | succ k ih =>
    unfold orB
    exact Nat.or_lt_two_pow (n := 8) (ih (fun i hi => h i (by omega))) (Nat.pow_lt_pow_right (by omega) (h k (by omega)))
theorem orB_congr {g g' : Nat → Nat} {k : Nat} (h : ∀ i, i < k → g i = g' i) : orB g k = orB g' k := by
  induction k with
  | zero => rfl
  | succ k ih =>
    unfold orB
    rw [ih (fun i hi => h i (by omega)), h k (by omega)]
abbrev mbf (r : Nat → Int32) (l f p : Nat) : Nat := vf r l (128 + 5 * f + p)
section RD3
variable {M : Mem} {l e f : Nat}
theorem ens_loop (hl : l < 4) (hf : f < 41) (hN : NN (gR M 4) l) (hE : vf (gR M 4) l 0 ≤ 5) (hm : ∀ p, p < vf (gR M 4) l 0 → mbf (gR M 4) l f p < 8) : ∀ (d k g : Nat), k + d = vf (gR M 4) l 0 → d < g → m_X6_ensemble_L5 3 (nI l) (nI f) M g (nI (orB (mbf (gR M 4) l f) k)) (nI k) = some (nI (orB (mbf (gR M 4) l f) (vf (gR M 4) l 0))) := by
  intro d
  induction d with
  | zero =>
    intro k g h1 h2
    obtain ⟨g, rfl⟩ : ∃ k, g = k + 1 := ⟨g - 1, by omega⟩
    rw [m_X6_ensemble_L5_s, Ln 0, of_ok (by omega), bind_s, hN 0 (by omega) (by omega), if_pos (nI_le (by omega) (by omega)), show k = vf (gR M 4) l 0 by omega]
  | succ d ih =>
    intro k g h1 h2
    obtain ⟨g, rfl⟩ : ∃ k, g = k + 1 := ⟨g - 1, by omega⟩
    rw [m_X6_ensemble_L5_s, Ln 0, of_ok (by omega), bind_s, hN 0 (by omega) (by omega), if_neg (nI_ge (by omega) (by omega)), memberOf_ok (by omega), bind_s, hN (128 + 5 * f + k) (by omega) (by omega), shl1 (hm k (by omega)), or_nI, nI_1]
    exact ih (k + 1) g (by omega) (by omega)
theorem ens_ok (hl : l < 4) (hf : f < 41) (hN : NN (gR M 4) l) (hE : vf (gR M 4) l 0 ≤ 5) (hm : ∀ p, p < vf (gR M 4) l 0 → mbf (gR M 4) l f p < 8) : m_X6_ensemble 3 (nI l) (nI f) M = some (nI (orB (mbf (gR M 4) l f) (vf (gR M 4) l 0))) := ens_loop hl hf hN hE hm (vf (gR M 4) l 0) 0 fuel (by omega) (by unfold fuel; omega)
end RD3
