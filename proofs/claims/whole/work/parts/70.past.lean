/-! push and note together keep the past -/
/-- M' is M but for the present state's block and what the model threw -/
def Qb (M M' : Mem) : Prop := ∀ c, c / 64 ≠ 1 → gR M' c = gR M c ∧ ∀ k, (c ≠ 3 ∨ k ≠ 3) → gF M' c k = gF M c k
theorem Qb.rf {M : Mem} : Qb M M := fun _ _ => ⟨rfl, fun _ _ => rfl⟩
theorem Qb.fb {M M1 M2 : Mem} (h : Qb M M1) (k : Fb 64 M1 M2) : Qb M M2 := fun c hc => ⟨(k.1 c (by omega)).2.trans (h c hc).1, fun j hj => (congrFun (k.1 c (by omega)).1 j).trans ((h c hc).2 j hj)⟩
theorem Qb.qu {M M1 M2 : Mem} (h : Qb M M1) (k : Qu M1 M2) : Qb M M2 := fun c hc => ⟨(k.2 c).trans (h c hc).1, fun j hj => (k.1 c j hj).trans ((h c hc).2 j hj)⟩
theorem gF_ext {M M' : Mem} {c : Nat} (h : ∀ k, gF M' c k = gF M c k) : gF M' c = gF M c := funext h
theorem note_any {M : Mem} {n : Nat} (hn : n ≤ 4) (h2 : gF M 3 2 = nI n) : ∃ p5 n', (n' = if n = 4 then 4 else n + 1) ∧ m_X6_note 3 M = some (sF 3 2 (nI n') (sR 5 p5 M)) ∧ (∀ k, k < 3463 → p5 (3463 * (n' - 1) + k) = gR M 4 k) ∧ ∀ j k, j < n' - 1 → k < 3463 → p5 (3463 * j + k) = gR M 5 (3463 * (j + (n + 1 - n')) + k) := by
  by_cases h4 : n = 4
  · subst h4
    refine ⟨_, 4, (if_pos rfl).symm, note_4 h2, fun k hk => put5_at hk, fun j k hj hk => ?_⟩
    exact (put5_no (n := 3) (show j < 3 from hj) hk).trans (shf5_at (show j < 3 from hj) hk)
  · refine ⟨_, n + 1, (if_neg h4).symm, note_lt (by omega) h2, fun k hk => put5_at hk, fun j k hj hk => ?_⟩
    rw [put5_no (n := n) hj hk, show n + 1 - (n + 1) = 0 by omega, Nat.add_zero]
theorem past_ok {M M1 M2 : Mem} {G G1 : Nat → Bool} {n nx nc lc : Nat} (hn : n ≤ 4) (hx : nx < 4) (h5 : gF M 3 2 = nI n) (hp : ∀ j, j < n → G ((nx + 4 - n + j) % 4) = true ∧ ∃ nc lc, Inv (pr M j) nc lc ∧ RC (128 + 64 * ((nx + 4 - n + j) % 4)) (pr M j) M) (hI : Inv (gR M 4) nc lc)
    (hG : ∀ i, G1 i = true ↔ G i = true ∨ i = nx) (hR : RC (128 + 64 * nx) (gR M 4) M1) (h0 : gF M1 1 0 = nI (if n = 4 then 4 else n + 1)) (h1 : gF M1 1 1 = nI ((nx + 1) % 4)) (hf : ∀ c, c ≠ 1 → c / 64 ≠ nx + 2 → gF M1 c = gF M c ∧ gR M1 c = gR M c) (hq : Qb M1 M2) :
    ∃ M3, m_X6_note 3 M2 = some M3 ∧ Past G1 M3 ∧ (∀ c, c / 64 = 1 → gF M3 c = gF M2 c ∧ gR M3 c = gR M2 c) ∧ gR M3 4 = gR M 4 ∧ gF M3 3 3 = gF M2 3 3 ∧ M3.2.2 = M2.2.2 ∧ ∀ c, 128 ≤ c → gF M3 c = gF M1 c := by
  have h2 : gF M2 3 2 = nI n := by
    rw [(hq 3 (by omega)).2 2 (Or.inr (by omega)), (hf 3 (by omega) (by omega)).1, h5]
  have h4' : gR M2 4 = gR M 4 := (hq 4 (by omega)).1.trans (hf 4 (by omega) (by omega)).2
  have h5' : gR M2 5 = gR M 5 := (hq 5 (by omega)).1.trans (hf 5 (by omega) (by omega)).2
  obtain ⟨p5, n', hn', e1, d1, d2⟩ := note_any hn h2
  have g3 : ∀ c, c ≠ 3 → gF (sF 3 2 (nI n') (sR 5 p5 M2)) c = gF M2 c := fun c hc => gF_sF_ne hc
  have r3 : ∀ c, c ≠ 5 → gR (sF 3 2 (nI n') (sR 5 p5 M2)) c = gR M2 c := fun c hc => gR_ne hc
  have q1 : ∀ c, 128 ≤ c → gF M2 c = gF M1 c ∧ gR M2 c = gR M1 c := fun c hc => ⟨gF_ext fun k => (hq c (by omega)).2 k (Or.inl (by omega)), (hq c (by omega)).1⟩
  have hlast : ∀ i, i < 3463 → pr (sF 3 2 (nI n') (sR 5 p5 M2)) (n' - 1) i = gR M 4 i := fun i hi => by
    show gR (sR 5 p5 M2) 5 _ = _
    rw [gR_self, d1 i hi, h4']
  have hold : ∀ j i, j < n' - 1 → i < 3463 → pr (sF 3 2 (nI n') (sR 5 p5 M2)) j i = pr M (j + (n + 1 - n')) i := fun j i hj hi => by
    show gR (sR 5 p5 M2) 5 _ = _
    rw [gR_self, d2 j i hj hi, h5']
  refine ⟨_, e1, ⟨n', (nx + 1) % 4, by split at hn' <;> omega, by omega, ?_, ?_, gF_self, fun j hj => ?_⟩, fun c hc => ⟨g3 c (by omega), r3 c (by omega)⟩, (r3 4 (by omega)).trans h4', (gF_ne (by decide)).trans rfl, rfl, fun c hc => (g3 c (by omega)).trans (q1 c hc).1⟩
  · rw [g3 1 (by omega), (hq 1 (by omega)).2 0 (Or.inl (by omega)), h0, hn']
  · rw [g3 1 (by omega), (hq 1 (by omega)).2 1 (Or.inl (by omega)), h1]
  · by_cases hjl : j = n' - 1
    · have hsl : ((nx + 1) % 4 + 4 - n' + j) % 4 = nx := by split at hn' <;> omega
      rw [hsl]
      refine ⟨(hG nx).mpr (Or.inr rfl), nc, lc, ?_, ?_⟩
      · rw [hjl]; exact hI.ext hlast
      · rw [hjl]
        exact RC.ext hI hlast (fun c h1 h2 => ⟨(g3 c (by omega)).trans (q1 c (by omega)).1, (r3 c (by omega)).trans (q1 c (by omega)).2⟩) hR
    · have hj2 : j < n' - 1 := by omega
      obtain ⟨k1, nc', lc', k2, k3⟩ := hp (j + (n + 1 - n')) (by split at hn' <;> omega)
      have hsl : ((nx + 1) % 4 + 4 - n' + j) % 4 = (nx + 4 - n + (j + (n + 1 - n'))) % 4 := by split at hn' <;> omega
      have hne : (nx + 4 - n + (j + (n + 1 - n'))) % 4 ≠ nx := by split at hn' <;> omega
      rw [hsl]
      refine ⟨(hG _).mpr (Or.inl k1), nc', lc', k2.ext (fun i hi => hold j i hj2 hi), ?_⟩
      exact RC.ext k2 (fun i hi => hold j i hj2 hi) (fun c h1 h2 => ⟨((g3 c (by omega)).trans (q1 c (by omega)).1).trans (hf c (by omega) (by omega)).1, ((r3 c (by omega)).trans (q1 c (by omega)).2).trans (hf c (by omega) (by omega)).2⟩) k3
