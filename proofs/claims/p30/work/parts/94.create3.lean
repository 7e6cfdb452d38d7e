/-! createLedger -/
section CR3
variable {M : Mem} {nc lc E W A : Nat} {r : Nat → Int32}
theorem begL_ok (hR : RC 64 r M) (hI : Inv r nc lc) (hm : Nm 64 M) (hl : lc < 4) (h1 : 1 ≤ E ∧ E ≤ 5) (h2 : 1 ≤ W ∧ W ≤ E) (h3 : 1 ≤ A ∧ A ≤ W) (hup : E ≤ pc (upM r nc)) : ∃ M', m_X3_beginLedger 64 (nI E) (nI W) (nI A) M = some (nI lc, M') ∧ RC 64 (rNew r nc lc E W A) M' ∧ Fg 64 M M' := by
  have h8 := hI.1
  obtain ⟨a, ha⟩ : ∃ a, a = 64 + 27 + 5 * lc := ⟨_, rfl⟩
  obtain ⟨N0, hN0⟩ : ∃ N, N = sF 64 1 (nI (lc + 1)) M := ⟨_, rfl⟩
  obtain ⟨N1, hN1⟩ : ∃ N, N = sR (a + 3) (upd (gR N0 (a + 3)) 0 0) (sF a 7 1 (sF a 6 (-1) (sF a 5 0 (sF a 4 0 (sF a 3 (nI A) (sF a 2 (nI W) (sF a 1 (nI E) N0))))))) := ⟨_, rfl⟩
  have hbeg : m_X0_begin a (nI E) (nI W) (nI A) N0 = m_X0_begin_L45 a (nI E) (nI W) (nI A) fuel (nI 0) N1 := by
    unfold m_X0_begin
    rw [ck_0 (by omega), aI_0, hN1]
    rfl
  obtain ⟨q1, b1, b2, -⟩ := beg_loop (a := a) (x2 := nI W) (x3 := nI A) h1.2 E 0 fuel N1 (by omega) (by unfold fuel; omega)
  obtain ⟨N2, hN2⟩ : ∃ N, N = sR (a + 4) q1 N1 := ⟨_, rfl⟩
  have g0 : ∀ c, c ≠ 64 → ¬ (a ≤ c ∧ c ≤ a + 4) → gF N2 c = gF M c ∧ gR N2 c = gR M c := fun c hc hc2 => by
    rw [hN2, hN1, hN0]
    refine ⟨?_, ?_⟩
    · rw [show gF (sR (a + 4) q1 (sR (a + 3) (upd (gR (sF 64 1 (nI (lc + 1)) M) (a + 3)) 0 0) (sF a 7 1 (sF a 6 (-1) (sF a 5 0 (sF a 4 0 (sF a 3 (nI A) (sF a 2 (nI W) (sF a 1 (nI E) (sF 64 1 (nI (lc + 1)) M)))))))))) c = gF (sF a 7 1 (sF a 6 (-1) (sF a 5 0 (sF a 4 0 (sF a 3 (nI A) (sF a 2 (nI W) (sF a 1 (nI E) (sF 64 1 (nI (lc + 1)) M)))))))) c from rfl]
      rw [gF_sF_ne (by omega), gF_sF_ne (by omega), gF_sF_ne (by omega), gF_sF_ne (by omega), gF_sF_ne (by omega), gF_sF_ne (by omega), gF_sF_ne (by omega), gF_sF_ne hc]
    · rw [gR_ne (by omega), gR_ne (by omega)]
      rfl
  have g64 : ∀ k, k ≠ 1 → gF N2 64 k = gF M 64 k := fun k hk => by
    rw [hN2, hN1, hN0]
    show gF (sF a 7 1 (sF a 6 (-1) (sF a 5 0 (sF a 4 0 (sF a 3 (nI A) (sF a 2 (nI W) (sF a 1 (nI E) (sF 64 1 (nI (lc + 1)) M)))))))) 64 k = _
    rw [gF_sF_ne (by omega), gF_sF_ne (by omega), gF_sF_ne (by omega), gF_sF_ne (by omega), gF_sF_ne (by omega), gF_sF_ne (by omega), gF_sF_ne (by omega), gF_ne hk]
  have g641 : gF N2 64 1 = nI (lc + 1) := by
    rw [hN2, hN1, hN0]
    show gF (sF a 7 1 (sF a 6 (-1) (sF a 5 0 (sF a 4 0 (sF a 3 (nI A) (sF a 2 (nI W) (sF a 1 (nI E) (sF 64 1 (nI (lc + 1)) M)))))))) 64 1 = _
    rw [gF_sF_ne (by omega), gF_sF_ne (by omega), gF_sF_ne (by omega), gF_sF_ne (by omega), gF_sF_ne (by omega), gF_sF_ne (by omega), gF_sF_ne (by omega), gF_self]
  have ga : gF N2 a 0 = nI lc ∧ gF N2 a 1 = nI E ∧ gF N2 a 2 = nI W ∧ gF N2 a 3 = nI A ∧ gF N2 a 4 = 0 ∧ gF N2 a 5 = 0 ∧ gF N2 a 6 = -1 ∧ gF N2 a 7 = 1 := by
    rw [hN2, hN1, hN0]
    have e : ∀ k, gF (sR (a + 4) q1 (sR (a + 3) (upd (gR (sF 64 1 (nI (lc + 1)) M) (a + 3)) 0 0) (sF a 7 1 (sF a 6 (-1) (sF a 5 0 (sF a 4 0 (sF a 3 (nI A) (sF a 2 (nI W) (sF a 1 (nI E) (sF 64 1 (nI (lc + 1)) M)))))))))) a k = gF (sF a 7 1 (sF a 6 (-1) (sF a 5 0 (sF a 4 0 (sF a 3 (nI A) (sF a 2 (nI W) (sF a 1 (nI E) (sF 64 1 (nI (lc + 1)) M)))))))) a k := fun k => rfl
    refine ⟨?_, ?_, ?_, ?_, ?_, ?_, ?_, ?_⟩
    · rw [e, gF_ne (by decide), gF_ne (by decide), gF_ne (by decide), gF_ne (by decide), gF_ne (by decide), gF_ne (by decide), gF_ne (by decide), gF_sF_ne (by omega), ha]
      exact hm lc hl
    · rw [e, gF_ne (by decide), gF_ne (by decide), gF_ne (by decide), gF_ne (by decide), gF_ne (by decide), gF_ne (by decide), gF_self]
    · rw [e, gF_ne (by decide), gF_ne (by decide), gF_ne (by decide), gF_ne (by decide), gF_ne (by decide), gF_self]
    · rw [e, gF_ne (by decide), gF_ne (by decide), gF_ne (by decide), gF_ne (by decide), gF_self]
    · rw [e, gF_ne (by decide), gF_ne (by decide), gF_ne (by decide), gF_self]
    · rw [e, gF_ne (by decide), gF_ne (by decide), gF_self]
    · rw [e, gF_ne (by decide), gF_self]
    · rw [e, gF_self]
  have gm : gR N2 (a + 4) = q1 := by rw [hN2, gR_self]
  have gs : gR N2 (a + 3) 0 = 0 := by rw [hN2, hN1, gR_ne (by omega), gR_self, upd_s]
  have hCh : Ch 64 N2 r nc := (Ch.of hR hI).mem (g64 0 (by omega)) (fun n hn => (g0 _ (by omega) (by omega)).1)
  obtain ⟨q2, c1, c2⟩ := cre_cls (B := 64) (l := lc) (a := a) h8 h1.2 hup ha (x2 := nI W) (x3 := nI A) (v := nI lc) E 0 fuel N2 (by omega) (by unfold fuel; omega) ga.2.1 (fun p hp => by rw [gm, b2 p (by omega) hp, if_neg (by omega)]) hCh
  have gf : ∀ c, gF (sR (a + 4) q2 N2) c = gF N2 c := fun c => rfl
  have gr : ∀ c, c ≠ a + 4 → gR (sR (a + 4) q2 N2) c = gR N2 c := fun c hc => gR_ne hc
  have hZ := hI.2.2.2.2.2.2.2 lc (Nat.le_refl _) hl
  have hI' := new_I hI hl h1 h2 h3 hup
  have hL' := inv_l hI' (Nat.lt_succ_self lc)
  have ho : ∀ i, i ≠ 1 → ¬ lIx lc i → rNew r nc lc E W A i = r i := fun i h h' => rCk_o (by omega) h h'
  have k0 : rNew r nc lc E W A (2131 + 333 * lc + 0) = nI E := (rCk_w (by omega)).trans rC0_0
  have k1 : rNew r nc lc E W A (2131 + 333 * lc + 1) = nI W := (rCk_w (by omega)).trans rC0_1
  have k2 : rNew r nc lc E W A (2131 + 333 * lc + 2) = nI A := (rCk_w (by omega)).trans rC0_2
  have k5 : rNew r nc lc E W A (2131 + 333 * lc + 5) = -1 := (rCk_w (by omega)).trans rC0_5
  have k6 : rNew r nc lc E W A (2131 + 333 * lc + 6) = nI 1 := (rCk_w (by omega)).trans rC0_6
  have kz : ∀ w, w < 128 → (w ≠ 0 ∧ w ≠ 1 ∧ w ≠ 2 ∧ w ≠ 5 ∧ w ≠ 6) → rNew r nc lc E W A (2131 + 333 * lc + w) = 0 := fun w hw hn => (rCk_w hw).trans (rC0_z hZ (by omega) hn)
  have v4 : vf (rNew r nc lc E W A) lc 4 = 0 := vf_is (k := 0) (kz 4 (by omega) (by omega)) (by omega)
  have v6 : vf (rNew r nc lc E W A) lc 6 = 1 := vf_is k6 (by omega)
  have v0 : vf (rNew r nc lc E W A) lc 0 = E := vf_is k0 (by omega)
  have hCL : CL (sR (a + 4) q2 N2) a (rNew r nc lc E W A) lc := by
    obtain ⟨a0, a1, a2, a3, a4, a5, a6, a7⟩ := ga
    refine ⟨a0, a1.trans k0.symm, a2.trans k1.symm, a3.trans k2.symm, a4.trans (kz 3 (by omega) (by omega)).symm, a5.trans (kz 4 (by omega) (by omega)).symm, a6.trans k5.symm, a7.trans k6.symm, fun e he => by omega, fun e he => by omega, fun f hf hf41 => ?_, fun f p hf hp hf41 hp5 => ?_⟩
    · rw [show f = 0 by omega, gr _ (by omega), gs]
      exact (kz 87 (by omega) (by omega)).symm
    · rw [show f = 0 by omega, gR_self, Nat.mul_zero, Nat.zero_add, c2 p (by omega), show 128 + 0 + p = 128 + p by omega]
      exact (rCk_m (by omega)).symm
  refine ⟨sR (a + 4) q2 N2, ?_, ⟨?_, ?_, ?_, fun n hn => ?_, fun l hl' => ?_⟩, ⟨⟨fun c hc => ?_, ?_⟩, fun l hl' => ?_⟩⟩
  · unfold m_X3_beginLedger
    rw [rc_lc hR hI, nI_1, ← hN0, ledger_of (lc := lc + 1) (l := lc) (by rw [hN0, gF_self]) (by omega) (by omega), bind_s, on_sm, ← ha, hbeg, b1, bind_s, ← hN2]
    exact c1
  · rw [gf, g64 0 (by omega), hR.1, ho 0 (by omega) (by unfold lIx; omega)]
  · rw [gf, g641]
    exact rCk_1.symm
  · rw [gf, g64 2 (by omega), hR.2.2.1, ho 2 (by omega) (by unfold lIx; omega)]
  · rw [ho 0 (by omega) (by unfold lIx; omega), hI.2.2.1, cl_nI (by omega)] at hn
    exact (rc_n hR hI hn).congr (by omega) (fun c hc1 hc2 => ⟨(gf c ▸ (g0 c (by omega) (by omega)).1), (gr c (by omega)).trans (g0 c (by omega) (by omega)).2⟩) (fun i hi => ho i (by unfold nIx at hi; omega) (by unfold nIx at hi; unfold lIx; omega))
  · rw [show rNew r nc lc E W A 1 = nI (lc + 1) from rCk_1, cl_nI (by omega)] at hl'
    by_cases hq : l = lc
    · rw [hq, ← ha]; exact hCL
    · exact (rc_l hR hI (by omega)).congr (by omega) (fun c hc1 hc2 => ⟨(gf c ▸ (g0 c (by omega) (by omega)).1), (gr c (by omega)).trans (g0 c (by omega) (by omega)).2⟩) (fun i hi => ho i (by unfold lIx at hi; omega) (by unfold lIx at hi ⊢; omega))
  · exact ⟨gf c ▸ (g0 c (by omega) (by omega)).1, (gr c (by omega)).trans (g0 c (by omega) (by omega)).2⟩
  · rw [hN2, hN1, hN0]
    rfl
  · by_cases hq : l = lc
    · rw [hq, gf, ← ha, ga.1, ha]
      exact (hm lc hl).symm
    · rw [gf, (g0 _ (by omega) (by omega)).1]
theorem in_15 {x y : Int32} : m_X6_in x 1 y = if x < 1 then 0 else if y < x then 0 else 1 := rfl
end CR3
