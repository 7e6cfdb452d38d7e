/-! changes that keep the row well formed -/
theorem QC.mono {r r' : Nat → Int32} {lc lc' : Nat} {v : Int32} (hl : lc ≤ lc') (h : ∀ l, l < lc → vf r l 4 ≤ vf r' l 4) (q : QC r lc v) : QC r' lc' v := by
  obtain ⟨l, e, c, p, h1, h2, h3, h4, h5⟩ := q
  exact ⟨l, e, c, p, by omega, Nat.lt_of_lt_of_le h2 (h l h1), h3, h4, h5⟩
theorem NIv.congr {r r' : Nat → Int32} {lc lc' n : Nat} (hn : n < 8) (hl : lc ≤ lc') (hr : ∀ i, nIx n i → r' i = r i) (h4 : ∀ l, l < lc → vf r l 4 ≤ vf r' l 4) (h : NIv r lc n) : NIv r' lc' n := by
  unfold nIx at hr
  obtain ⟨h0, ⟨w, hw, h1, h2, h3⟩, h5, h6⟩ := h
  have e0 := hr (3 + n) (Or.inl rfl)
  have e1 := hr (11 + n) (Or.inr (Or.inl rfl))
  refine ⟨by rw [e0]; exact h0, ⟨w, hw, by rw [e1]; exact h1, by rw [e0]; exact h2, fun i hi => ?_⟩, fun k hk => ?_, fun l hl => ?_⟩
  · rw [hr _ (Or.inr (Or.inr (Or.inl ⟨by omega, by omega⟩)))]
    exact (h3 i hi).mono hl h4
  · rw [hr _ (Or.inr (Or.inr (Or.inr (Or.inl ⟨by omega, by omega⟩))))]
    exact h5 k hk
  · rw [hr _ (Or.inr (Or.inr (Or.inr (Or.inr ⟨by omega, by omega⟩))))]
    exact h6 l hl
theorem Z0.congr {r r' : Nat → Int32} {n : Nat} (hn : n < 8) (hr : ∀ i, nIx n i → r' i = r i) (h : Z0 r n) : Z0 r' n := by
  unfold nIx at hr
  obtain ⟨h0, h1, h5, h6⟩ := h
  refine ⟨by rw [hr (3 + n) (Or.inl rfl)]; exact h0, by rw [hr (11 + n) (Or.inr (Or.inl rfl))]; exact h1, fun k hk => ?_, fun l hl => ?_⟩
  · rw [hr _ (Or.inr (Or.inr (Or.inr (Or.inl ⟨by omega, by omega⟩))))]
    exact h5 k hk
  · rw [hr _ (Or.inr (Or.inr (Or.inr (Or.inr ⟨by omega, by omega⟩))))]
    exact h6 l hl
theorem ZL.congr {r r' : Nat → Int32} {l : Nat} (hr : ∀ i, lIx l i → r' i = r i) (h : ZL r l) : ZL r' l := fun w hw => by
  rw [hr _ (by unfold lIx; omega)]
  exact h w hw
theorem LI.congr {r r' : Nat → Int32} {nc nc' l : Nat} (hn : nc ≤ nc') (hr : ∀ i, lIx l i → r' i = r i) (h : LI r nc l) : LI r' nc' l := by
  have hw : ∀ w, w < 333 → r' (2131 + 333 * l + w) = r (2131 + 333 * l + w) := fun w hw => hr _ ⟨by omega, by omega⟩
  have hv : ∀ w, w < 333 → vf r' l w = vf r l w := fun w h => by
    show cl (r' _) = cl (r _)
    rw [hw w h]
  have v0 := hv 0 (by omega)
  have v1 := hv 1 (by omega)
  have v2 := hv 2 (by omega)
  have v3 := hv 3 (by omega)
  have v4 := hv 4 (by omega)
  have v6 := hv 6 (by omega)
  have v87 := hv 87 (by omega)
  obtain ⟨a0, a1, a2, a3, a4, a5, a6, a7, a8, a9, b0, b1, b2, b3, b4, k, hk, b5⟩ := h
  have va : ∀ f, f < vf r l 6 → vf r' l (87 + f) = vf r l (87 + f) := fun f hf => hv (87 + f) (by omega)
  have vm : ∀ f p, f < vf r l 6 → p < vf r l 0 → mbf r' l f p = mbf r l f p := fun f p hf hp => hv (128 + 5 * f + p) (by omega)
  unfold LI
  rw [v0, v1, v2, v3, v4, v6, v87, va (vf r l 6 - 1) (by omega)]
  refine ⟨fun w h1 h2 => ?_, a1, a2, a3, a4, a5, a6, a7, fun f hf => ?_, a9, fun f p hf hp => ?_, fun f p q hf hp hq => ?_, fun e he => ?_, fun e he => ?_, fun h0 e he => ?_, k, hk, ?_⟩
  · rw [hw w h1, hv w h1]; exact a0 w h1 h2
  · rw [va f (by omega), va (f + 1) hf]; exact a8 f hf
  · rw [vm f p hf hp]; exact Nat.lt_of_lt_of_le (b0 f p hf hp) hn
  · rw [vm f p hf (by omega), vm f q hf hq]; exact b1 f p q hf hp hq
  · rw [hv (47 + e) (by omega)]; exact b2 e he
  · rw [hv (7 + e) (by omega)]; exact b3 e he
  · rw [hv (47 + e) (by omega)]; exact b4 h0 e he
  · rw [hw 5 (by omega)]; exact b5
theorem Inv.node {r r' : Nat → Int32} {nc lc n : Nat} (hI : Inv r nc lc) (hn : n < nc) (hr : ∀ i, ¬ nIx n i → r' i = r i) (h : NIv r' lc n) : Inv r' nc lc := by
  obtain ⟨h8, h4, h0, h1, h2, h3, h5, h6⟩ := hI
  refine ⟨h8, h4, by rw [hr 0 (by unfold nIx; omega)]; exact h0, by rw [hr 1 (by unfold nIx; omega)]; exact h1, fun k hk => ?_, fun k hk hk8 => ?_, fun l hl => ?_, fun l hl hl4 => ?_⟩
  · by_cases hkn : k = n
    · rw [hkn]; exact h
    · refine (h2 k hk).congr (by omega) (Nat.le_refl _) (fun i hi => hr i (by unfold nIx at hi ⊢; omega)) (fun l hl => Nat.le_of_eq ?_)
      show cl (r _) = cl (r' _)
      rw [hr _ (by unfold nIx; omega)]
  · exact (h3 k hk hk8).congr hk8 (fun i hi => hr i (by unfold nIx at hi ⊢; omega))
  · exact (h5 l hl).congr (Nat.le_refl _) (fun i hi => hr i (by unfold nIx; unfold lIx at hi; omega))
  · exact (h6 l hl hl4).congr (fun i hi => hr i (by unfold nIx; unfold lIx at hi; omega))
theorem Inv.led {r r' : Nat → Int32} {nc lc l : Nat} (hI : Inv r nc lc) (hl : l < lc) (hr : ∀ i, ¬ lIx l i → r' i = r i) (h4' : vf r l 4 ≤ vf r' l 4) (h : LI r' nc l) : Inv r' nc lc := by
  obtain ⟨h8, h4, h0, h1, h2, h3, h5, h6⟩ := hI
  refine ⟨h8, h4, by rw [hr 0 (by unfold lIx; omega)]; exact h0, by rw [hr 1 (by unfold lIx; omega)]; exact h1, fun k hk => ?_, fun k hk hk8 => ?_, fun k hk => ?_, fun k hk hk4 => ?_⟩
  · refine (h2 k hk).congr (by omega) (Nat.le_refl _) (fun i hi => hr i (by unfold nIx at hi; unfold lIx; omega)) (fun k2 hk2 => ?_)
    by_cases hq : k2 = l
    · rw [hq]; exact h4'
    · refine Nat.le_of_eq ?_
      show cl (r _) = cl (r' _)
      rw [hr _ (by unfold lIx; omega)]
  · exact (h3 k hk hk8).congr hk8 (fun i hi => hr i (by unfold nIx at hi; unfold lIx; omega))
  · by_cases hkl : k = l
    · rw [hkl]; exact h
    · exact (h5 k hk).congr (Nat.le_refl _) (fun i hi => hr i (by unfold lIx at hi ⊢; omega))
  · exact (h6 k hk hk4).congr (fun i hi => hr i (by unfold lIx at hi ⊢; omega))
/-! a request arrives -/
/-- the row after it: w requests wait before -/
def rRecv (r : Nat → Int32) (n w : Nat) (v : Int32) : Nat → Int32 := upd (upd r (19 + 100 * n + w) v) (11 + n) (nI (w + 1))
theorem rRecv_ne {r : Nat → Int32} {n w i : Nat} {v : Int32} (h1 : i ≠ 11 + n) (h2 : i ≠ 19 + 100 * n + w) : rRecv r n w v i = r i := by
  unfold rRecv
  rw [upd_n h1, upd_n h2]
theorem rRecv_w {r : Nat → Int32} {n w : Nat} {v : Int32} : rRecv r n w v (11 + n) = nI (w + 1) := upd_s
theorem rRecv_q {r : Nat → Int32} {n w : Nat} {v : Int32} (hn : n < 8) : rRecv r n w v (19 + 100 * n + w) = v := by
  unfold rRecv
  rw [upd_n (by omega), upd_s]
theorem recv_ok {M : Mem} {a n w : Nat} {r : Nat → Int32} {x : Int32} (hC : CN M a r n) (hu : r (3 + n) = 1) (hw : r (11 + n) = nI w) (h100 : w < 100) : m_X1_receive a x M = some (sF a 3 (nI (w + 1)) (sR (a + 2) (upd (gR M (a + 2)) w x) M)) := by
  have h0 : gF M a 0 = 1 := hC.1.trans hu
  have h3 : gF M a 3 = nI w := hC.2.2.2.1.trans hw
  unfold m_X1_receive
  rw [h0, if_neg (by decide), h3, if_neg (nI_pos (by omega)), Ln 100, if_neg (nI_ge (by omega) (by omega)), ck_ix (by omega) (by omega), aI_nI (by omega), gF_sR, h3, nI_1]
theorem recv_full {M : Mem} {a n : Nat} {r : Nat → Int32} {x : Int32} (hC : CN M a r n) (h : r (3 + n) = 0 ∨ r (11 + n) = nI 100) : m_X1_receive a x M = some M := by
  unfold m_X1_receive
  rw [hC.1, hC.2.2.2.1]
  by_cases h0 : r (3 + n) = 0
  · rw [if_pos h0]
  · rw [if_neg h0, h.resolve_left h0, if_neg (by decide), if_pos (by decide)]
theorem recv_CN {M : Mem} {a n w : Nat} {r : Nat → Int32} {v : Int32} (hn : n < 8) (hC : CN M a r n) (hw : r (11 + n) = nI w) (h100 : w < 100) : CN (sF a 3 (nI (w + 1)) (sR (a + 2) (upd (gR M (a + 2)) w (rqc v)) M)) a (rRecv r n w v) n := by
  obtain ⟨h0, ⟨m, hm, h1, h1'⟩, h2, h3, h4, h5⟩ := hC
  refine ⟨?_, ⟨m, hm, ?_, fun l hl => ?_⟩, ?_, ?_, fun l e hl he => ?_, fun i hi hi100 => ?_⟩
  · rw [gF_ne (by decide), gF_sR, h0, rRecv_ne (by omega) (by omega)]
  · rw [gF_ne (by decide), gF_sR, h1]
  · rw [rRecv_ne (by omega) (by omega), h1' l hl]
  · rw [gF_ne (by decide), gF_sR, h2, rW_congr (r := r) (fun j hj => rRecv_ne (by omega) (by omega))]
  · rw [gF_self, rRecv_w]
  · rw [gR_sF, gR_ne (by omega), h4 l e hl he, rRecv_ne (by omega) (by omega)]
  · rw [rRecv_w, cl_nI (by omega)] at hi
    rw [gR_sF, gR_self]
    by_cases hq : i = w
    · rw [hq, upd_s, rRecv_q hn]
    · rw [upd_n hq, rRecv_ne (by omega) (by omega)]
      exact h5 i (by rw [hw, cl_nI (by omega)]; omega) hi100
theorem recv_NI {n w lc : Nat} {r : Nat → Int32} {v : Int32} (hn : n < 8) (hI : NIv r lc n) (hu : r (3 + n) = 1) (hw : r (11 + n) = nI w) (h100 : w < 100) (hv : QC r lc v) (h4 : lc ≤ 4) : NIv (rRecv r n w v) lc n := by
  obtain ⟨h0, ⟨w', hw', h1, h2, h3⟩, h5, h6⟩ := hI
  have hm : ∀ l, l < lc → vf r l 4 ≤ vf (rRecv r n w v) l 4 := fun l hl => Nat.le_of_eq (by
    show cl (r _) = cl (rRecv r n w v _)
    rw [rRecv_ne (by omega) (by omega)])
  obtain rfl : w' = w := nI_inj (by omega) (by omega) (h1.symm.trans hw)
  refine ⟨by rw [rRecv_ne (by omega) (by omega)]; exact h0, ⟨w' + 1, by omega, rRecv_w, fun q => ?_, fun i hi => ?_⟩, fun k hk => ?_, fun l hl => ?_⟩
  · rw [rRecv_ne (by omega) (by omega), hu] at q
    exact absurd q (by decide)
  · by_cases hq : i = w'
    · rw [hq, rRecv_q hn]; exact hv.mono (Nat.le_refl _) hm
    · rw [rRecv_ne (by omega) (by omega)]; exact (h3 i (by omega)).mono (Nat.le_refl _) hm
  · rw [rRecv_ne (by omega) (by omega)]; exact h5 k hk
  · rw [rRecv_ne (by omega) (by omega)]; exact h6 l hl
