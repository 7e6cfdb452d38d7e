/-- restart -/
theorem go_of {M M' : Mem} (h : M'.2.2 = M.2.2) : go M' = go M := by
  show M'.2.2.2.1 = M.2.2.2.1
  rw [h]
theorem up_NI {r : Nat → Int32} {lc n : Nat} (hn : n < 8) (h4 : lc ≤ 4) (h : NIv r lc n) : NIv (upd r (3 + n) 1) lc n := by
  have hne : ∀ i, i ≠ 3 + n → upd r (3 + n) 1 i = r i := fun i hi => upd_n hi
  obtain ⟨h0, ⟨w, hw, h1, h2, h3⟩, h5, h6⟩ := h
  have hm : ∀ k, k < lc → vf r k 4 ≤ vf (upd r (3 + n) 1) k 4 := fun k hk => Nat.le_of_eq (by
    show cl (r _) = cl (upd r (3 + n) 1 _)
    rw [hne _ (by omega)])
  refine ⟨Or.inr upd_s, ⟨w, hw, by rw [hne _ (by omega)]; exact h1, fun q => absurd (upd_s.symm.trans q) (by decide), fun i hi => ?_⟩, fun k hk => ?_, fun l hl => ?_⟩
  · rw [hne _ (by omega)]; exact (h3 i hi).mono (Nat.le_refl _) hm
  · rw [hne _ (by omega)]; exact h5 k hk
  · rw [hne _ (by omega)]; exact h6 l hl
theorem up_CN {M : Mem} {r : Nat → Int32} {a n : Nat} (hn : n < 8) (h : CN M a r n) : CN (sF a 0 1 M) a (upd r (3 + n) 1) n := by
  have hne : ∀ i, i ≠ 3 + n → upd r (3 + n) 1 i = r i := fun i hi => upd_n hi
  obtain ⟨h0, ⟨m, hm, h1, h1'⟩, h2, h3, h4, h5⟩ := h
  refine ⟨by rw [gF_self, upd_s], ⟨m, hm, by rw [gF_ne (by decide)]; exact h1, fun l hl => by rw [hne _ (by omega)]; exact h1' l hl⟩, ?_, ?_, fun l e hl he => ?_, fun i hi h100 => ?_⟩
  · rw [gF_ne (by decide), h2, rW_congr (r := r) (fun j hj => hne _ (by omega))]
  · rw [gF_ne (by decide), h3, hne _ (by omega)]
  · rw [gR_sF, h4 l e hl he, hne _ (by omega)]
  · rw [hne _ (by omega)] at hi
    rw [gR_sF, h5 i hi h100, hne _ (by omega)]
