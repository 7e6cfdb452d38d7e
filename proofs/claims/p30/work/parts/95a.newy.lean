/-! a new ledger, and what is confirmed -/
section NEWY
variable {nc lc E W A : Nat} {r : Nat → Int32}
theorem Y.new (hI : Inv r nc lc) (hl : lc < 4) (h1 : 1 ≤ E ∧ E ≤ 5) (hY : Y r lc) : Y (rNew r nc lc E W A) (lc + 1) ∧ ∀ k, k < lc → fl r k ≤ fl (rNew r nc lc E W A) k := by
  have hZ := hI.2.2.2.2.2.2.2 lc (Nat.le_refl _) hl
  have ho : ∀ i, i ≠ 1 → ¬ lIx lc i → rNew r nc lc E W A i = r i := fun i h2 h3 => rCk_o h1.2 h2 h3
  have hz : ∀ w, w < 128 → w ≠ 0 ∧ w ≠ 1 ∧ w ≠ 2 ∧ w ≠ 5 ∧ w ≠ 6 → vf (rNew r nc lc E W A) lc w = 0 := fun w hw hw2 => by
    show cl (rCk (rC0 r lc E W A) lc (gC r nc) E (2131 + 333 * lc + w)) = 0
    rw [rCk_w hw, rC0_z hZ (by omega) hw2]
    rfl
  have h6 : vf (rNew r nc lc E W A) lc 6 = 1 := by
    show cl (rCk (rC0 r lc E W A) lc (gC r nc) E (2131 + 333 * lc + 6)) = 1
    rw [rCk_w (by omega), rC0_6, cl_nI (by omega)]
  have z4 : vf r lc 4 = 0 := by
    show cl (r _) = 0
    rw [hZ 4 (by omega)]
    rfl
  have key : ∀ k, k < lc → YL (rNew r nc lc E W A) k ∧ fl r k ≤ fl (rNew r nc lc E W A) k := fun k hk => YL.congr (inv_l hI hk) (fun w _ => ho _ (by omega) (by unfold lIx; omega)) (fun n e hn he q => by rw [ho _ (by omega) (by unfold lIx; omega)]; exact q) (hY.2.2 k hk)
  refine ⟨⟨fun n l e hn hl' he hs => ?_, fun n i hn hi h100 => ?_, fun k hk => ?_⟩, fun k hk => (key k hk).2⟩
  · rw [ho _ (by omega) (by unfold lIx; omega)] at hs ⊢
    obtain ⟨a, b⟩ := hY.1 n l e hn hl' he hs
    refine ⟨?_, b⟩
    by_cases hq : l = lc
    · subst hq; omega
    · rw [vfo (ho _ (by omega) (by unfold lIx; omega))]; exact a
  · rw [ho _ (by omega) (by unfold lIx; omega)] at hi
    rw [ho _ (by omega) (by unfold lIx; omega)]
    exact hY.2.1 n i hn hi h100
  · by_cases hq : k = lc
    · subst hq
      refine ⟨fun _ => ⟨fun e n he => ?_, fun e he => ?_⟩, fun hp => ?_⟩
      · rw [hz 4 (by omega) (by omega)] at he
        omega
      · rw [h6, hz (87 + (1 - 1)) (by omega) (by omega)] at he
        omega
      · rw [hz 3 (by omega) (by omega)] at hp
        omega
    · exact (key k (by omega)).1
theorem new_2 (h1 : 1 ≤ E ∧ E ≤ 5) : rNew r nc lc E W A 2 = r 2 := rCk_o h1.2 (by omega) (by unfold lIx; omega)
end NEWY
