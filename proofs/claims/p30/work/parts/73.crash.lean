/-! crash -/
def empt (f : Nat → Int32) (n k : Nat) : Nat → Int32 := fun i => if 19 + 100 * n ≤ i ∧ i < 19 + 100 * n + k then 0 else f i
theorem empt_s {f : Nat → Int32} {n k : Nat} : upd (empt f n k) (19 + 100 * n + k) 0 = empt f n (k + 1) := by
  funext i
  by_cases hi : i = 19 + 100 * n + k
  · subst hi
    rw [upd_s]
    unfold empt
    rw [if_pos ⟨by omega, by omega⟩]
  · rw [upd_n hi]
    unfold empt
    by_cases hq : 19 + 100 * n ≤ i ∧ i < 19 + 100 * n + k
    · rw [if_pos hq, if_pos ⟨hq.1, by omega⟩]
    · rw [if_neg hq, if_neg (fun q => hq ⟨q.1, by omega⟩)]
theorem empt_0 {f : Nat → Int32} {n : Nat} : empt f n 0 = f := by
  funext i
  exact if_neg (fun q => by omega)
theorem empt_loop {M : Mem} {n : Nat} {f : Nat → Int32} (hn : n < 8) : ∀ (d k g : Nat), k + d = 100 → d < g → m_X6_empty_L12 3 (nI n) g (nI k) (sR 4 (empt f n k) M) = some (sR 4 (empt f n 100) M) := by
  intro d
  induction d with
  | zero =>
    intro k g h1 h3
    obtain ⟨g, rfl⟩ : ∃ k, g = k + 1 := ⟨g - 1, by omega⟩
    rw [m_X6_empty_L12_s, Ln 100, if_pos (nI_le (by omega) (by omega)), show k = 100 by omega]
  | succ d ih =>
    intro k g h1 h3
    obtain ⟨g, rfl⟩ : ∃ k, g = k + 1 := ⟨g - 1, by omega⟩
    rw [m_X6_empty_L12_s, Ln 100, if_neg (nI_ge (by omega) (by omega)), Ln 19, nI_mul, nI_add, nI_add, ck_ix (by omega) (by omega), aI_nI (by omega), gR_self, sR_sR, empt_s, nI_1]
    exact ih (k + 1) g (by omega) (by omega)
def rCrash (r : Nat → Int32) (n : Nat) : Nat → Int32 := upd (empt (upd r (11 + n) 0) n 100) (3 + n) 0
theorem empty_ok {M : Mem} {n : Nat} (hn : n < 8) : m_X6_empty 3 (nI n) M = some (sR 4 (empt (upd (gR M 4) (11 + n) 0) n 100) M) := by
  unfold m_X6_empty
  rw [Ln 11, nI_add, ck_ix (by omega) (by omega), aI_nI (by omega)]
  have h := empt_loop (M := M) (f := upd (gR M 4) (11 + n) 0) hn 100 0 fuel (by omega) (by unfold fuel; omega)
  rw [empt_0] at h
  exact h
theorem rCrash_ne {r : Nat → Int32} {n i : Nat} (h1 : i ≠ 3 + n) (h2 : i ≠ 11 + n) (h3 : ¬ (19 + 100 * n ≤ i ∧ i < 19 + 100 * n + 100)) : rCrash r n i = r i := by
  unfold rCrash
  rw [upd_n h1]
  unfold empt
  rw [if_neg h3, upd_n h2]
theorem rCrash_u {r : Nat → Int32} {n : Nat} : rCrash r n (3 + n) = 0 := upd_s
theorem rCrash_w {r : Nat → Int32} {n : Nat} (hn : n < 8) : rCrash r n (11 + n) = 0 := by
  unfold rCrash
  rw [upd_n (by omega)]
  unfold empt
  rw [if_neg (fun q => by omega), upd_s]
theorem crash_NI {r : Nat → Int32} {lc n : Nat} (hn : n < 8) (h : NIv r lc n) : NIv (rCrash r n) lc n := by
  obtain ⟨h0, -, h5, h6⟩ := h
  refine ⟨Or.inl rCrash_u, ⟨0, by omega, rCrash_w hn, fun _ => rfl, fun i hi => absurd hi (Nat.not_lt_zero i)⟩, fun k hk => ?_, fun l hl => ?_⟩
  · rw [rCrash_ne (by omega) (by omega) (by omega)]; exact h5 k hk
  · rw [rCrash_ne (by omega) (by omega) (by omega)]; exact h6 l hl
theorem crash_CN {M : Mem} {r : Nat → Int32} {a n : Nat} (hn : n < 8) (h : CN M a r n) : CN (sF a 3 0 (sF a 0 0 M)) a (rCrash r n) n := by
  obtain ⟨h0, ⟨m, hm, h1, h1'⟩, h2, h3, h4, h5⟩ := h
  refine ⟨by rw [gF_ne (by decide), gF_self, rCrash_u], ⟨m, hm, by rw [gF_ne (by decide), gF_ne (by decide)]; exact h1, fun l hl => by rw [rCrash_ne (by omega) (by omega) (by omega)]; exact h1' l hl⟩, ?_, ?_, fun l e hl he => ?_, fun i hi h100 => ?_⟩
  · rw [gF_ne (by decide), gF_ne (by decide), h2, rW_congr (r := r) (fun j hj => rCrash_ne (by omega) (by omega) (by omega))]
  · rw [gF_self, rCrash_w hn]
  · rw [gR_sF, gR_sF, h4 l e hl he, rCrash_ne (by omega) (by omega) (by omega)]
  · rw [rCrash_w hn] at hi
    exact absurd hi (Nat.not_lt_zero i)
