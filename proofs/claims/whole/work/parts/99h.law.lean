/-! the law, step by step, without end in none -/
theorem lawStep_ok {G : Nat → Bool} {M : Mem} (o x1 x2 x3 : Int32) (h : Top G M) : ∃ G' M', lawStep o x1 x2 x3 G M = some (G', M') ∧ Top G' M' := by
  unfold lawStep
  by_cases h0 : o = 0
  · rw [if_pos h0]; exact done_0 h
  rw [if_neg h0]
  by_cases h1 : o = 1
  · rw [if_pos h1]; exact done_1 h
  rw [if_neg h1]
  by_cases h2 : o = 2
  · rw [if_pos h2]; exact done_2 h
  rw [if_neg h2]
  by_cases h3 : o = 3
  · rw [if_pos h3]; exact done_3 h
  rw [if_neg h3]
  by_cases h4 : o = 4
  · rw [if_pos h4]; exact done_4 h
  rw [if_neg h4]
  by_cases h5 : o = 5
  · rw [if_pos h5]; exact done_5 h
  rw [if_neg h5]
  by_cases h6 : o = 6
  · rw [if_pos h6]; exact done_6 h
  rw [if_neg h6]
  by_cases h7 : o = 7
  · rw [if_pos h7]; exact done_7 h
  rw [if_neg h7]
  by_cases h8 : o = 8
  · rw [if_pos h8]; exact done_8 h
  rw [if_neg h8]
  by_cases h9 : o = 9
  · rw [if_pos h9]; exact done_9 h
  rw [if_neg h9]
  by_cases h10 : o = 10
  · rw [if_pos h10]; exact done_10 h
  rw [if_neg h10]
  by_cases h11 : o = 11
  · rw [if_pos h11]; exact done_11 h
  rw [if_neg h11]
  by_cases h12 : o = 12
  · rw [if_pos h12]; exact done_12 h
  rw [if_neg h12]
  by_cases h13 : o = 13
  · rw [if_pos h13]; exact done_13 h
  rw [if_neg h13]
  by_cases h14 : o = 14
  · rw [if_pos h14]; exact done_14 h
  rw [if_neg h14]
  by_cases h15 : o = 15
  · rw [if_pos h15]; exact done_15 h
  rw [if_neg h15]
  by_cases h16 : o = 16
  · rw [if_pos h16]; exact done_16 h
  rw [if_neg h16]
  by_cases h17 : o = 17
  · rw [if_pos h17]; exact done_17 h
  rw [if_neg h17]
  by_cases h18 : o = 18
  · rw [if_pos h18]; exact done_18 h
  rw [if_neg h18]
  by_cases h19 : o = 19
  · rw [if_pos h19]; exact done_19 h
  rw [if_neg h19]
  by_cases h20 : o = 20
  · rw [if_pos h20]; exact done_20 h
  rw [if_neg h20]
  by_cases h21 : o = 21
  · rw [if_pos h21]; exact done_21 h
  rw [if_neg h21]
  by_cases h22 : o = 22
  · rw [if_pos h22]; exact done_22 h
  rw [if_neg h22]
  by_cases h23 : o = 23
  · rw [if_pos h23]; exact done_23 h
  rw [if_neg h23]
  by_cases h24 : o = 24
  · rw [if_pos h24]; exact done_24 h
  rw [if_neg h24]
  by_cases h25 : o = 25
  · rw [if_pos h25]; exact done_25 h
  rw [if_neg h25]
  by_cases h26 : o = 26
  · rw [if_pos h26]; exact done_26 h
  rw [if_neg h26]
  exact ⟨G, M, rfl, h⟩
theorem law_pure (xs : Nat → Int32) : ∀ (n i : Nat) (G : Nat → Bool) (M : Mem), Top G M → ∃ q, lawRun xs n i G M = some q := by
  intro n
  induction n with
  | zero => exact fun i G M _ => ⟨(G, M), rfl⟩
  | succ n ih =>
    intro i G M h
    obtain ⟨G', M', e1, h'⟩ := lawStep_ok (xs i &&& 31) (xs (i + 1)) (xs (i + 2)) (xs (i + 3)) h
    obtain ⟨q, hq⟩ := ih (i + 4) G' M' h'
    refine ⟨q, ?_⟩
    show Option.bind (lawStep (xs i &&& 31) (xs (i + 1)) (xs (i + 2)) (xs (i + 3)) G M) (fun q => lawRun xs n (i + 4) q.1 q.2) = some q
    rw [e1]
    exact hq
