/-! how many of a list of nodes belong to a mask -/
def cnt (q : Nat → Bool) : Nat → Nat
  | 0 => 0
  | k + 1 => cnt q k + (if q k = true then 1 else 0)
theorem cnt_s {q : Nat → Bool} {k : Nat} : cnt q (k + 1) = cnt q k + (if q k = true then 1 else 0) := rfl
theorem cnt_le {q : Nat → Bool} {k : Nat} : cnt q k ≤ k := by
  induction k with
  | zero => exact Nat.le_refl 0
  | succ k ih =>
    rw [cnt_s]
    split <;> omega
theorem cnt_congr {q q' : Nat → Bool} {k : Nat} (h : ∀ i, i < k → q i = q' i) : cnt q k = cnt q' k := by
  induction k with
  | zero => rfl
  | succ k ih => rw [cnt_s, cnt_s, ih (fun i hi => h i (by omega)), h k (by omega)]
set_option maxRecDepth 100000 in
theorem pc_add {m k : Nat} (hm : m < 256) (hk : k < 8) (h : m.testBit k = false) : pc (m ||| 2 ^ k) = pc m + 1 := (show ∀ m < 256, ∀ k < 8, m.testBit k = false → pc (m ||| 2 ^ k) = pc m + 1 by decide +kernel) m hm k hk h
theorem pc_and {g : Nat → Nat} {S : Nat} {k : Nat} (h8 : ∀ i, i < k → g i < 8) (hd : ∀ i j, i < j → j < k → g i ≠ g j) : pc (orB g k &&& S) = cnt (fun i => S.testBit (g i)) k := by
  induction k with
  | zero =>
    show pc (0 &&& S) = 0
    rw [Nat.zero_and]
    rfl
  | succ k ih =>
    have hi := ih (fun i hi => h8 i (by omega)) (fun i j h1 h2 => hd i j h1 (by omega))
    have hb : (orB g k &&& S).testBit (g k) = false := by
      cases hc : (orB g k &&& S).testBit (g k) with
      | false => rfl
      | true =>
        rw [Nat.testBit_and, Bool.and_eq_true] at hc
        obtain ⟨i, h1, h2⟩ := orB_bit.mp hc.1
        exact absurd h2 (hd i k h1 (by omega))
    have hlt : orB g k &&& S < 256 := Nat.lt_of_le_of_lt Nat.and_le_left (orB_lt (fun i hi => h8 i (by omega)))
    rw [cnt_s, ← hi]
    by_cases hs : S.testBit (g k) = true
    · rw [if_pos hs, ← pc_add hlt (h8 k (by omega)) hb]
      refine congrArg pc (Nat.eq_of_testBit_eq fun j => ?_)
      show ((orB g k ||| 2 ^ g k) &&& S).testBit j = ((orB g k &&& S) ||| 2 ^ g k).testBit j
      rw [Nat.testBit_and, Nat.testBit_or, Nat.testBit_or, Nat.testBit_and, Nat.testBit_two_pow]
      by_cases hj : g k = j
      · subst hj
        rw [hs]
        simp
      · simp [hj]
    · rw [if_neg hs, Nat.add_zero]
      refine congrArg pc (Nat.eq_of_testBit_eq fun j => ?_)
      show ((orB g k ||| 2 ^ g k) &&& S).testBit j = (orB g k &&& S).testBit j
      rw [Nat.testBit_and, Nat.testBit_or, Nat.testBit_and, Nat.testBit_two_pow]
      by_cases hj : g k = j
      · subst hj
        simp only [Bool.not_eq_true] at hs
        rw [hs]
        simp
      · simp [hj]
/-- the write set's nodes are apart -/
theorem mod_apart {e E i j : Nat} (h : i < j) (hj : j < E) : (e + i) % E ≠ (e + j) % E := fun q => by
  have h1 : (e + j - (e + i)) % E = 0 := Nat.sub_mod_eq_zero_of_mod_eq q.symm
  rw [show e + j - (e + i) = j - i by omega, Nat.mod_eq_of_lt (by omega)] at h1
  omega
theorem ws_apart {r : Nat → Int32} {nc l e f i j : Nat} (hL : LI r nc l) (hf : f < vf r l 6) (h : i < j) (hj : j < vf r l 1) : mbf r l f ((e + i) % vf r l 0) ≠ mbf r l f ((e + j) % vf r l 0) := by
  have hE := hL.2.1
  have hW := hL.2.2.1
  have h1 := mod_apart (e := e) h (show j < vf r l 0 by omega)
  have hd := hL.2.2.2.2.2.2.2.2.2.2.2.1
  have ha : (e + i) % vf r l 0 < vf r l 0 := Nat.mod_lt _ (by omega)
  have hb : (e + j) % vf r l 0 < vf r l 0 := Nat.mod_lt _ (by omega)
  rcases Nat.lt_or_gt_of_ne h1 with h2 | h2
  · exact hd f _ _ hf h2 hb
  · exact fun q => hd f _ _ hf h2 ha q.symm
theorem ws_lt {r : Nat → Int32} {nc l e f i : Nat} (hL : LI r nc l) (hf : f < vf r l 6) : mbf r l f ((e + i) % vf r l 0) < nc :=
  hL.2.2.2.2.2.2.2.2.2.2.1 f _ hf (Nat.mod_lt _ (by have := hL.2.1; omega))
theorem ws_pc {r : Nat → Int32} {nc l e f S : Nat} (hL : LI r nc l) (h8 : nc ≤ 8) (hf : f < vf r l 6) : pc (wsM r l f e &&& S) = cnt (fun i => S.testBit (mbf r l f ((e + i) % vf r l 0))) (vf r l 1) :=
  pc_and (fun i hi => Nat.lt_of_lt_of_le (ws_lt hL hf) h8) (fun i j h1 h2 => ws_apart hL hf h1 h2)
theorem m1_lt {K e : Nat} (hK : K < 2147483648) (he : e < 2147483648) : nI K - 1 < nI e ↔ K ≤ e := by
  rw [Int32.lt_iff_toInt_lt, toInt_sub1 hK, nI_toInt he]
  omega
theorem lt_m1 {K e : Nat} (hK : K < 2147483648) (he : e < 2147483648) : nI e < nI K - 1 ↔ e + 1 < K := by
  rw [Int32.lt_iff_toInt_lt, toInt_sub1 hK, nI_toInt he]
  omega
theorem min39 {K : Nat} (hK : K ≤ 40) : (if (39 : Int32) < nI K - 1 then 39 else nI K - 1) = nI K - 1 := if_neg (fun q => by
  have := (lt_m1 (K := K) (e := 39) (by omega) (by omega)).mp q
  omega)
