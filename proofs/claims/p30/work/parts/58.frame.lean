/-! what a change touches -/
/-- M' is M but for the block of base B -/
def Fb (B : Nat) (M M' : Mem) : Prop := (∀ c, c / 64 ≠ B / 64 → gF M' c = gF M c ∧ gR M' c = gR M c) ∧ M'.2.2 = M.2.2
theorem Fb.rf {B : Nat} {M : Mem} : Fb B M M := ⟨fun _ _ => ⟨rfl, rfl⟩, rfl⟩
theorem Fb.tr {B : Nat} {M M1 M2 : Mem} (h : Fb B M M1) (k : Fb B M1 M2) : Fb B M M2 := ⟨fun c hc => ⟨(k.1 c hc).1.trans (h.1 c hc).1, (k.1 c hc).2.trans (h.1 c hc).2⟩, k.2.trans h.2⟩
theorem gF_sF_ne {M : Mem} {c k : Nat} {v : Int32} {c' : Nat} (h : c' ≠ c) : gF (sF c k v M) c' = gF M c' := by
  funext k'
  show up2 M.1 c k v c' k' = M.1 c' k'
  unfold up2
  rw [if_neg (fun q => h q.1)]
theorem Fb.sF {B : Nat} {M M1 : Mem} {c k : Nat} {v : Int32} (h : Fb B M M1) (hc : c / 64 = B / 64) : Fb B M (sF c k v M1) := ⟨fun c' h' => ⟨(gF_sF_ne (fun q => h' (by rw [q]; exact hc))).trans (h.1 c' h').1, (h.1 c' h').2⟩, h.2⟩
theorem Fb.sR {B : Nat} {M M1 : Mem} {c : Nat} {q : Nat → Int32} (h : Fb B M M1) (hc : c / 64 = B / 64) : Fb B M (sR c q M1) := ⟨fun c' h' => ⟨(h.1 c' h').1, (gR_ne (fun q => h' (by rw [q]; exact hc))).trans (h.1 c' h').2⟩, h.2⟩
/-- M' is M but for the codes a .. a + d -/
def Fc (a d : Nat) (M M' : Mem) : Prop := ∀ c, ¬ (a ≤ c ∧ c ≤ a + d) → gF M' c = gF M c ∧ gR M' c = gR M c
theorem Fc.rf {a d : Nat} {M : Mem} : Fc a d M M := fun _ _ => ⟨rfl, rfl⟩
theorem Fc.tr {a d : Nat} {M M1 M2 : Mem} (h : Fc a d M M1) (k : Fc a d M1 M2) : Fc a d M M2 := fun c hc => ⟨(k c hc).1.trans (h c hc).1, (k c hc).2.trans (h c hc).2⟩
theorem Fc.sF {a d : Nat} {M M1 : Mem} {c k : Nat} {v : Int32} (h : Fc a d M M1) (hc : a ≤ c ∧ c ≤ a + d) : Fc a d M (sF c k v M1) := fun c' h' => ⟨(gF_sF_ne (fun q => h' (by rw [q]; exact hc))).trans (h c' h').1, (h c' h').2⟩
theorem Fc.sR {a d : Nat} {M M1 : Mem} {c : Nat} {q : Nat → Int32} (h : Fc a d M M1) (hc : a ≤ c ∧ c ≤ a + d) : Fc a d M (sR c q M1) := fun c' h' => ⟨(h c' h').1, (gR_ne (fun q => h' (by rw [q]; exact hc))).trans (h c' h').2⟩
/-- the row's places of node n -/
def nIx (n i : Nat) : Prop := i = 3 + n ∨ i = 11 + n ∨ (19 + 100 * n ≤ i ∧ i < 119 + 100 * n) ∨ (819 + 160 * n ≤ i ∧ i < 979 + 160 * n) ∨ (2099 + 4 * n ≤ i ∧ i < 2103 + 4 * n)
/-- .. of ledger l -/
def lIx (l i : Nat) : Prop := 2131 + 333 * l ≤ i ∧ i < 2464 + 333 * l
theorem rW_congr {r r' : Nat → Int32} {n k : Nat} (h : ∀ j, j < k → r' (819 + 160 * n + j) = r (819 + 160 * n + j)) : rW r' n k = rW r n k := by
  induction k with
  | zero => rfl
  | succ k ih =>
    unfold rW
    rw [ih (fun j hj => h j (by omega)), h k (by omega)]
theorem CN.congr {M M' : Mem} {a n : Nat} {r r' : Nat → Int32} (hn : n < 8) (hM : ∀ c, a ≤ c → c ≤ a + 2 → gF M' c = gF M c ∧ gR M' c = gR M c) (hr : ∀ i, nIx n i → r' i = r i) (h : CN M a r n) : CN M' a r' n := by
  obtain ⟨h0, ⟨m, hm, h1, h1'⟩, h2, h3, h4, h5⟩ := h
  have e0 := hM a (Nat.le_refl _) (by omega)
  have e1 := hM (a + 1) (by omega) (by omega)
  have e2 := hM (a + 2) (by omega) (by omega)
  unfold nIx at hr
  refine ⟨?_, ⟨m, hm, ?_, fun l hl => ?_⟩, ?_, ?_, fun l e hl he => ?_, fun i hi h100 => ?_⟩
  · rw [e0.1, h0, hr (3 + n) (Or.inl rfl)]
  · rw [e0.1, h1]
  · rw [hr _ (Or.inr (Or.inr (Or.inr (Or.inr ⟨by omega, by omega⟩)))), h1' l hl]
  · rw [e0.1, h2, rW_congr (r' := r') (r := r) (fun j hj => hr _ (Or.inr (Or.inr (Or.inr (Or.inl ⟨by omega, by omega⟩)))))]
  · rw [e0.1, h3, hr (11 + n) (Or.inr (Or.inl rfl))]
  · rw [e1.2, h4 l e hl he, hr _ (Or.inr (Or.inr (Or.inr (Or.inl ⟨by omega, by omega⟩))))]
  · rw [hr (11 + n) (Or.inr (Or.inl rfl))] at hi
    rw [e2.2, h5 i hi h100, hr _ (Or.inr (Or.inr (Or.inl ⟨by omega, by omega⟩)))]
theorem CL.congr {M M' : Mem} {a l : Nat} {r r' : Nat → Int32} (hl : l < 4) (hM : ∀ c, a ≤ c → c ≤ a + 4 → gF M' c = gF M c ∧ gR M' c = gR M c) (hr : ∀ i, lIx l i → r' i = r i) (h : CL M a r l) : CL M' a r' l := by
  have hw : ∀ w, w < 333 → r' (2131 + 333 * l + w) = r (2131 + 333 * l + w) := fun w hw => hr _ ⟨by omega, by omega⟩
  have hv : ∀ w, w < 333 → vf r' l w = vf r l w := fun w h => by
    show cl (r' _) = cl (r _)
    rw [hw w h]
  have e0 := hM a (Nat.le_refl _) (by omega)
  have e1 := hM (a + 1) (by omega) (by omega)
  have e2 := hM (a + 2) (by omega) (by omega)
  have e3 := hM (a + 3) (by omega) (by omega)
  have e4 := hM (a + 4) (by omega) (by omega)
  obtain ⟨h0, h1, h2, h3, h4, h5, h6, h7, h8, h9, h10, h11⟩ := h
  refine ⟨by rw [e0.1, h0], by rw [e0.1, h1, hw 0 (by omega)], by rw [e0.1, h2, hw 1 (by omega)], by rw [e0.1, h3, hw 2 (by omega)], by rw [e0.1, h4, hw 3 (by omega)], by rw [e0.1, h5, hw 4 (by omega)], by rw [e0.1, h6, hw 5 (by omega)], by rw [e0.1, h7, hw 6 (by omega)], fun e he h40 => ?_, fun e he h40 => ?_, fun f hf h41 => ?_, fun f p hf hp h41 h5' => ?_⟩
  · rw [hv 4 (by omega)] at he
    rw [e1.2, h8 e he h40, hw (7 + e) (by omega)]
  · rw [hv 4 (by omega)] at he
    rw [e2.2, h9 e he h40, hw (47 + e) (by omega)]
  · rw [hv 6 (by omega)] at hf
    rw [e3.2, h10 f hf h41, hw (87 + f) (by omega)]
  · rw [hv 6 (by omega)] at hf
    rw [hv 0 (by omega)] at hp
    rw [e4.2, h11 f p hf hp h41 h5', hw (128 + 5 * f + p) (by omega)]
/-- a change of node n alone -/
theorem RC.node {B n nc lc : Nat} {r r' : Nat → Int32} {M M' : Mem} (hR : RC B r M) (hI : Inv r nc lc) (hn : n < nc) (hM : Fc (B + 3 + 3 * n) 2 M M') (hr : ∀ i, ¬ nIx n i → r' i = r i) (h : CN M' (B + 3 + 3 * n) r' n) : RC B r' M' := by
  have h8 := hI.1
  have h4 := hI.2.1
  have r0 : r' 0 = r 0 := hr 0 (by unfold nIx; omega)
  have r1 : r' 1 = r 1 := hr 1 (by unfold nIx; omega)
  have r2 : r' 2 = r 2 := hr 2 (by unfold nIx; omega)
  have eB := hM B (by omega)
  have hc0 : cl (r 0) = nc := by rw [hI.2.2.1, cl_nI (by omega)]
  have hc1 : cl (r 1) = lc := by rw [hI.2.2.2.1, cl_nI (by omega)]
  refine ⟨by rw [eB.1, r0, hR.1], by rw [eB.1, r1, hR.2.1], by rw [eB.1, r2, hR.2.2.1], fun k hk => ?_, fun l hl => ?_⟩
  · rw [r0, hc0] at hk
    by_cases hkn : k = n
    · rw [hkn]; exact h
    · exact (rc_n hR hI hk).congr (by omega) (fun c h1 h2 => hM c (by omega)) (fun i hi => hr i (by unfold nIx at hi ⊢; omega))
  · rw [r1, hc1] at hl
    exact (rc_l hR hI hl).congr (by omega) (fun c h1 h2 => hM c (by omega)) (fun i hi => hr i (by unfold nIx; unfold lIx at hi; omega))
/-- a change of ledger l alone -/
theorem RC.led {B l nc lc : Nat} {r r' : Nat → Int32} {M M' : Mem} (hR : RC B r M) (hI : Inv r nc lc) (hl : l < lc) (hM : Fc (B + 27 + 5 * l) 4 M M') (hr : ∀ i, ¬ lIx l i → r' i = r i) (h : CL M' (B + 27 + 5 * l) r' l) : RC B r' M' := by
  have h8 := hI.1
  have h4 := hI.2.1
  have r0 : r' 0 = r 0 := hr 0 (by unfold lIx; omega)
  have r1 : r' 1 = r 1 := hr 1 (by unfold lIx; omega)
  have r2 : r' 2 = r 2 := hr 2 (by unfold lIx; omega)
  have eB := hM B (by omega)
  have hc0 : cl (r 0) = nc := by rw [hI.2.2.1, cl_nI (by omega)]
  have hc1 : cl (r 1) = lc := by rw [hI.2.2.2.1, cl_nI (by omega)]
  refine ⟨by rw [eB.1, r0, hR.1], by rw [eB.1, r1, hR.2.1], by rw [eB.1, r2, hR.2.2.1], fun k hk => ?_, fun k hk => ?_⟩
  · rw [r0, hc0] at hk
    exact (rc_n hR hI hk).congr (by omega) (fun c h1 h2 => hM c (by omega)) (fun i hi => hr i (by unfold nIx at hi; unfold lIx; omega))
  · rw [r1, hc1] at hk
    by_cases hkl : k = l
    · rw [hkl]; exact h
    · exact (rc_l hR hI hk).congr (by omega) (fun c h1 h2 => hM c (by omega)) (fun i hi => hr i (by unfold lIx at hi ⊢; omega))
