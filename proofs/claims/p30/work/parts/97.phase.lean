/-! a ledger's phase and last entry change; nodes are fenced -/
def rP (r : Nat → Int32) (l v : Nat) : Nat → Int32 := upd r (2131 + 333 * l + 3) (nI v)
def rQ (r : Nat → Int32) (l s : Nat) : Nat → Int32 := upd r (2131 + 333 * l + 5) (nI s - 1)
section PH
variable {M : Mem} {B a nc lc l n v s : Nat} {r : Nat → Int32}
theorem LI.ph (hI : LI r nc l) (hv : 1 ≤ v ∧ v ≤ 2) : LI (rP r l v) nc l := by
  have ho : ∀ w, w ≠ 3 → rP r l v (2131 + 333 * l + w) = r (2131 + 333 * l + w) := fun w h => upd_n (by omega)
  have hvv : ∀ w, w ≠ 3 → vf (rP r l v) l w = vf r l w := fun w h => vf_o (ho w h)
  have h3 : vf (rP r l v) l 3 = v := vf_is (upd_s) (by omega)
  have h0 := hvv 0 (by omega)
  have h1 := hvv 1 (by omega)
  have h2 := hvv 2 (by omega)
  have h4 := hvv 4 (by omega)
  have h6 := hvv 6 (by omega)
  obtain ⟨a0, a1, a2, a3, a4, a5, a6, a7, a8, a9, b0, b1, b2, b3, b4, k, hk, b5⟩ := hI
  unfold LI
  rw [h0, h1, h2, h3, h4, h6, hvv 87 (by omega), hvv (87 + (vf r l 6 - 1)) (by omega)]
  refine ⟨fun w hw hw5 => ?_, a1, a2, a3, hv.2, a5, a6, a7, fun f hf => ?_, a9, fun f p hf hp => ?_, fun f p q hf hp hq => ?_, fun e he => ?_, fun e he => ?_, fun q => by omega, k, hk, ?_⟩
  · by_cases hq : w = 3
    · rw [hq, h3]; exact upd_s
    · rw [ho w hq, hvv w hq]; exact a0 w hw hw5
  · rw [hvv (87 + f) (by omega), hvv (87 + (f + 1)) (by omega)]; exact a8 f hf
  · rw [show mbf (rP r l v) l f p = mbf r l f p from hvv _ (by omega)]; exact b0 f p hf hp
  · rw [show mbf (rP r l v) l f p = mbf r l f p from hvv _ (by omega), show mbf (rP r l v) l f q = mbf r l f q from hvv _ (by omega)]; exact b1 f p q hf hp hq
  · rw [hvv (47 + e) (by omega)]; exact b2 e he
  · rw [hvv (7 + e) (by omega)]; exact b3 e he
  · rw [ho 5 (by omega)]; exact b5
theorem LI.la (hI : LI r nc l) (hs : s ≤ 40) : LI (rQ r l s) nc l := by
  have ho : ∀ w, w ≠ 5 → rQ r l s (2131 + 333 * l + w) = r (2131 + 333 * l + w) := fun w h => upd_n (by omega)
  have hvv : ∀ w, w ≠ 5 → vf (rQ r l s) l w = vf r l w := fun w h => vf_o (ho w h)
  have h0 := hvv 0 (by omega)
  have h1 := hvv 1 (by omega)
  have h2 := hvv 2 (by omega)
  have h3 := hvv 3 (by omega)
  have h4 := hvv 4 (by omega)
  have h6 := hvv 6 (by omega)
  obtain ⟨a0, a1, a2, a3, a4, a5, a6, a7, a8, a9, b0, b1, b2, b3, b4, k, hk, b5⟩ := hI
  unfold LI
  rw [h0, h1, h2, h3, h4, h6, hvv 87 (by omega), hvv (87 + (vf r l 6 - 1)) (by omega)]
  refine ⟨fun w hw hw5 => ?_, a1, a2, a3, a4, a5, a6, a7, fun f hf => ?_, a9, fun f p hf hp => ?_, fun f p q hf hp hq => ?_, fun e he => ?_, fun e he => ?_, fun q e he => ?_, s, hs, upd_s⟩
  · rw [ho w hw5, hvv w hw5]; exact a0 w hw hw5
  · rw [hvv (87 + f) (by omega), hvv (87 + (f + 1)) (by omega)]; exact a8 f hf
  · rw [show mbf (rQ r l s) l f p = mbf r l f p from hvv _ (by omega)]; exact b0 f p hf hp
  · rw [show mbf (rQ r l s) l f p = mbf r l f p from hvv _ (by omega), show mbf (rQ r l s) l f q = mbf r l f q from hvv _ (by omega)]; exact b1 f p q hf hp hq
  · rw [hvv (47 + e) (by omega)]; exact b2 e he
  · rw [hvv (7 + e) (by omega)]; exact b3 e he
  · rw [hvv (47 + e) (by omega)]; exact b4 q e he
theorem CL.ph (hC : CL M a r l) (hI : LI r nc l) : CL (sF a 4 (nI v) M) a (rP r l v) l := by
  have h41 := hI.2.2.2.2.2.2.1.2
  have hE := hI.2.1
  have ho : ∀ w, w ≠ 3 → rP r l v (2131 + 333 * l + w) = r (2131 + 333 * l + w) := fun w h => upd_n (by omega)
  have hvv : ∀ w, w ≠ 3 → vf (rP r l v) l w = vf r l w := fun w h => vf_o (ho w h)
  have hs : ∀ k, k ≠ 4 → gF (sF a 4 (nI v) M) a k = gF M a k := fun k hk => gF_ne hk
  obtain ⟨h0, h1, h2, h3, h4, h5, h6, h7, h8, h9, h10, h11⟩ := hC
  refine ⟨by rw [hs 0 (by omega), h0], by rw [hs 1 (by omega), h1, ho 0 (by omega)], by rw [hs 2 (by omega), h2, ho 1 (by omega)], by rw [hs 3 (by omega), h3, ho 2 (by omega)], gF_self.trans upd_s.symm, by rw [hs 5 (by omega), h5, ho 4 (by omega)], by rw [hs 6 (by omega), h6, ho 5 (by omega)], by rw [hs 7 (by omega), h7, ho 6 (by omega)], fun k hk hk40 => ?_, fun k hk hk40 => ?_, fun f hf hf41 => ?_, fun f q hf hq hf41 hq5 => ?_⟩
  · rw [hvv 4 (by omega)] at hk
    rw [gR_sF, h8 k hk hk40, ho (7 + k) (by omega)]
  · rw [hvv 4 (by omega)] at hk
    rw [gR_sF, h9 k hk hk40, ho (47 + k) (by omega)]
  · rw [hvv 6 (by omega)] at hf
    rw [gR_sF, h10 f hf hf41, ho (87 + f) (by omega)]
  · rw [hvv 6 (by omega)] at hf
    rw [hvv 0 (by omega)] at hq
    rw [gR_sF, h11 f q hf hq hf41 hq5, ho (128 + 5 * f + q) (by omega)]
theorem CL.la (hC : CL M a r l) (hI : LI r nc l) : CL (sF a 6 (nI s - 1) M) a (rQ r l s) l := by
  have h41 := hI.2.2.2.2.2.2.1.2
  have hE := hI.2.1
  have ho : ∀ w, w ≠ 5 → rQ r l s (2131 + 333 * l + w) = r (2131 + 333 * l + w) := fun w h => upd_n (by omega)
  have hvv : ∀ w, w ≠ 5 → vf (rQ r l s) l w = vf r l w := fun w h => vf_o (ho w h)
  have hs : ∀ k, k ≠ 6 → gF (sF a 6 (nI s - 1) M) a k = gF M a k := fun k hk => gF_ne hk
  obtain ⟨h0, h1, h2, h3, h4, h5, h6, h7, h8, h9, h10, h11⟩ := hC
  refine ⟨by rw [hs 0 (by omega), h0], by rw [hs 1 (by omega), h1, ho 0 (by omega)], by rw [hs 2 (by omega), h2, ho 1 (by omega)], by rw [hs 3 (by omega), h3, ho 2 (by omega)], by rw [hs 4 (by omega), h4, ho 3 (by omega)], by rw [hs 5 (by omega), h5, ho 4 (by omega)], gF_self.trans upd_s.symm, by rw [hs 7 (by omega), h7, ho 6 (by omega)], fun k hk hk40 => ?_, fun k hk hk40 => ?_, fun f hf hf41 => ?_, fun f q hf hq hf41 hq5 => ?_⟩
  · rw [hvv 4 (by omega)] at hk
    rw [gR_sF, h8 k hk hk40, ho (7 + k) (by omega)]
  · rw [hvv 4 (by omega)] at hk
    rw [gR_sF, h9 k hk hk40, ho (47 + k) (by omega)]
  · rw [hvv 6 (by omega)] at hf
    rw [gR_sF, h10 f hf hf41, ho (87 + f) (by omega)]
  · rw [hvv 6 (by omega)] at hf
    rw [hvv 0 (by omega)] at hq
    rw [gR_sF, h11 f q hf hq hf41 hq5, ho (128 + 5 * f + q) (by omega)]
theorem ph_I (hI : Inv r nc lc) (hl : l < lc) (hv : 1 ≤ v ∧ v ≤ 2) : Inv (rP r l v) nc lc :=
  hI.led hl (fun i hi => upd_n (by unfold lIx at hi; omega)) (Nat.le_of_eq (vf_o (upd_n (by omega))).symm) ((inv_l hI hl).ph hv)
theorem la_I (hI : Inv r nc lc) (hl : l < lc) (hs : s ≤ 40) : Inv (rQ r l s) nc lc :=
  hI.led hl (fun i hi => upd_n (by unfold lIx at hi; omega)) (Nat.le_of_eq (vf_o (upd_n (by omega))).symm) ((inv_l hI hl).la hs)
theorem ph_R (hR : RC 64 r M) (hI : Inv r nc lc) (hl : l < lc) : RC 64 (rP r l v) (sF (64 + 27 + 5 * l) 4 (nI v) M) := RC.led hR hI hl (Fc.rf.sF (by omega)) (fun i hi => upd_n (by unfold lIx at hi; omega)) ((rc_l hR hI hl).ph (inv_l hI hl))
theorem la_R (hR : RC 64 r M) (hI : Inv r nc lc) (hl : l < lc) : RC 64 (rQ r l s) (sF (64 + 27 + 5 * l) 6 (nI s - 1) M) := RC.led hR hI hl (Fc.rf.sF (by omega)) (fun i hi => upd_n (by unfold lIx at hi; omega)) ((rc_l hR hI hl).la (inv_l hI hl))
/-- a fence -/
def rFe (r : Nat → Int32) (n l : Nat) : Nat → Int32 := if r (3 + n) = 1 then upd r (2099 + 4 * n + l) 1 else r
theorem fe_ls (hn : n < 8) (hl : l < 4) : Ls r (rFe r n l) := fun i hi => by
  unfold rFe
  split
  · exact upd_n (by omega)
  · rfl
theorem fe_up {k : Nat} (hk : k < 8) : rFe r n l (3 + k) = r (3 + k) := by
  unfold rFe
  split
  · exact upd_n (by omega)
  · rfl
theorem fe_NI (hn : n < 8) (hl : l < 4) (h4 : lc ≤ 4) (hI : NIv r lc n) : NIv (upd r (2099 + 4 * n + l) 1) lc n := by
  have hne : ∀ i, i ≠ 2099 + 4 * n + l → upd r (2099 + 4 * n + l) 1 i = r i := fun i hi => upd_n hi
  obtain ⟨h0, ⟨w, hw, h1, h2, h3⟩, h5, h6⟩ := hI
  have hm : ∀ k, k < lc → vf r k 4 ≤ vf (upd r (2099 + 4 * n + l) 1) k 4 := fun k hk => Nat.le_of_eq (vf_o (hne _ (by omega))).symm
  refine ⟨by rw [hne _ (by omega)]; exact h0, ⟨w, hw, by rw [hne _ (by omega)]; exact h1, by rw [hne _ (by omega)]; exact h2, fun i hi => ?_⟩, fun k hk => ?_, fun k hk => ?_⟩
  · rw [hne _ (by omega)]; exact (h3 i hi).mono (Nat.le_refl _) hm
  · rw [hne _ (by omega)]; exact h5 k hk
  · by_cases hq : k = l
    · rw [hq]; exact Or.inr upd_s
    · rw [hne _ (by omega)]; exact h6 k hk
theorem fe_I (hI : Inv r nc lc) (hn : n < nc) (hl : l < 4) : Inv (rFe r n l) nc lc := by
  have h8 := hI.1
  unfold rFe
  split
  · exact hI.node hn (fun i hi => upd_n (by unfold nIx at hi; omega)) (fe_NI (by omega) hl hI.2.1 (inv_n hI hn))
  · exact hI
theorem fe_CN (hn : n < 8) (hl : l < 4) (hC : CN M a r n) : ∃ m, m < 16 ∧ gF M a 1 = nI m ∧ CN (sF a 1 (nI (m ||| 2 ^ l)) M) a (upd r (2099 + 4 * n + l) 1) n := by
  have hne : ∀ i, i ≠ 2099 + 4 * n + l → upd r (2099 + 4 * n + l) 1 i = r i := fun i hi => upd_n hi
  obtain ⟨h0, ⟨m, hm, h1, h1'⟩, h2, h3, h4, h5⟩ := hC
  refine ⟨m, hm, h1, by rw [gF_ne (by decide), h0, hne _ (by omega)], ⟨m ||| 2 ^ l, Nat.or_lt_two_pow (n := 4) hm (Nat.pow_lt_pow_right (by omega) hl), gF_self, fun k hk => ?_⟩, ?_, ?_, fun l' e hl' he => ?_, fun i hi h100 => ?_⟩
  · rw [Nat.testBit_or, Nat.testBit_two_pow]
    by_cases hq : l = k
    · subst hq
      rw [decide_eq_true rfl, Bool.or_true, if_pos rfl]
      exact upd_s
    · rw [decide_eq_false hq, Bool.or_false, hne _ (by omega)]
      exact h1' k hk
  · rw [gF_ne (by decide), h2, rW_congr (r := r) (fun j hj => hne _ (by omega))]
  · rw [gF_ne (by decide), h3, hne _ (by omega)]
  · rw [gR_sF, h4 l' e hl' he, hne _ (by omega)]
  · rw [hne _ (by omega)] at hi
    rw [gR_sF, h5 i hi h100, hne _ (by omega)]
theorem fe_R (hR : RC 64 r M) (hI : Inv r nc lc) (hn : n < nc) (hl : l < 4) : (r (3 + n) = 1 → RC 64 (rFe r n l) (m_X1_fenceFor (64 + 3 + 3 * n) (nI l) M) ∧ Fg 64 M (m_X1_fenceFor (64 + 3 + 3 * n) (nI l) M)) ∧ (r (3 + n) = 0 → rFe r n l = r) := by
  have h8 := hI.1
  refine ⟨fun hu => ?_, fun hu => ?_⟩
  · obtain ⟨m, hm, h1, h2⟩ := fe_CN (l := l) (by omega) hl (rc_n hR hI hn)
    unfold rFe m_X1_fenceFor
    rw [if_pos hu, h1, shl1 (by omega), or_nI]
    exact ⟨RC.node hR hI hn (Fc.rf.sF (by omega)) (fun i hi => upd_n (by unfold nIx at hi; omega)) h2, Fg.rf.sF (by omega) (Or.inl (by decide))⟩
  · unfold rFe
    rw [if_neg (fun q => absurd (hu.symm.trans q) (by decide))]
theorem upd_id {i : Nat} : upd r i (r i) = r := by
  funext j
  by_cases hj : j = i
  · rw [hj]; exact upd_s
  · exact upd_n hj
theorem fe_or (hI : Inv r nc lc) (hn : n < nc) (hl : l < 4) : upd r (2099 + 4 * n + l) (r (2099 + 4 * n + l) ||| r (3 + n)) = rFe r n l := by
  unfold rFe
  rcases up01 hI hn with hu | hu
  · rw [hu, or0, if_neg (by decide), upd_id]
  · rw [hu, if_pos rfl]
    rcases (inv_n hI hn).2.2.2 l hl with h | h
    · rw [h]; rfl
    · rw [h]; rfl
theorem fe_Go (hI : Inv r nc lc) (hn : n < nc) (hl : l < 4) : Go lc 0 r (rFe r n l) := by
  have h8 := hI.1
  have ho : ∀ i, i < 2099 ∨ 2131 ≤ i → rFe r n l i = r i := fun i hi => by
    unfold rFe
    split
    · exact upd_n (by omega)
    · rfl
  refine Go.sl hI (fun i hi => ho i (by omega)) (fun hQ n' i hn' hi h100 => ?_) (ho 2 (by omega)) (fun m hm => ho _ (by omega))
  rw [ho _ (by omega)] at hi
  rw [ho _ (by omega)]
  exact hQ n' i hn' hi h100
/-- an open ledger, or one in recovery, is in recovery -/
theorem Y.ph (hI : Inv r nc lc) (hl : l < lc) (h3 : vf r l 3 ≠ 2) (hY : Y r lc) : Y (rP r l 1) lc ∧ ∀ k, k < lc → fl r k ≤ fl (rP r l 1) k := by
  have h4 := hI.2.1
  have hL := inv_l hI hl
  have h40 := hL.2.2.2.2.2.1
  have hF := hL.2.2.2.2.2.2.1
  have hst := hL.2.2.2.2.2.2.2.2.2.1
  have hne : ∀ i, i ≠ 2131 + 333 * l + 3 → rP r l 1 i = r i := fun i hi => upd_n hi
  have hz : Lz r (rP r l 1) l := fun w hw hw2 => hne _ (by omega)
  have p3 : vf (rP r l 1) l 3 = 1 := by
    show cl (upd _ _ _ _) = 1
    rw [upd_s, cl_nI (by omega)]
  have hk : ∀ k, k < 40 → vf (rP r l 1) l (47 + k) = vf r l (47 + k) := fun k hk => vfo (hne _ (by omega))
  have key : ∀ k, k < lc → YL (rP r l 1) k ∧ fl r k ≤ fl (rP r l 1) k := fun k hk' => by
    by_cases hkl : k = l
    · subst hkl
      obtain ⟨hK, hC⟩ := (hY.2.2 k hk').1 h3
      refine ⟨⟨fun _ => ⟨YK.of hL hz (fun e n he hn hb => ?_), fun e he => ?_⟩, fun q => by omega⟩, ?_⟩
      · rw [hk e (by omega)] at hb
        rw [hne _ (by omega)]
        exact hK e n he hn hb
      · rw [hz.v (w := 6) (by omega) (by omega), hz.v (w := 87 + (vf r k 6 - 1)) (by omega) (by omega)] at he
        rw [hz.v (w := 2) (by omega) (by omega), hk e (by omega)]
        exact hC e he
      · unfold fl
        rw [if_neg h3, if_neg (by omega), rCf_of (hz.v (by omega) (by omega)) (hz.v (by omega) (by omega)) (fun j hj => hk j (by omega))]
        exact Nat.le_refl _
    · exact YL.congr (inv_l hI hk') (fun w _ => hne _ (by omega)) (fun n e _ _ q => by rw [hne _ (by omega)]; exact q) (hY.2.2 k hk')
  refine ⟨⟨fun n' l' e' hn' hl' he' hs => ?_, fun n' i hn' hi h100 => ?_, fun k hk => (key k hk).1⟩, fun k hk => (key k hk).2⟩
  · rw [hne _ (by omega)] at hs ⊢
    rw [vfo (hne _ (by omega))]
    exact hY.1 n' l' e' hn' hl' he' hs
  · rw [hne _ (by omega)] at hi
    rw [hne _ (by omega)]
    exact hY.2.1 n' i hn' hi h100
/-- a ledger in recovery is closed behind entry e - 1 -/
theorem Y.close {e : Nat} (hI : Inv r nc lc) (hl : l < lc) (h3 : vf r l 3 = 1) (hlo : rCf r l ≤ e) (hhi : e ≤ vf r l 4) (hY : Y r lc) : Y (rQ (rP r l 2) l e) lc ∧ ∀ k, k < lc → fl r k ≤ fl (rQ (rP r l 2) l e) k := by
  have h4 := hI.2.1
  have hL := inv_l hI hl
  have h40 := hL.2.2.2.2.2.1
  have hne : ∀ i, i ≠ 2131 + 333 * l + 3 → i ≠ 2131 + 333 * l + 5 → rQ (rP r l 2) l e i = r i := fun i h1 h2 => (upd_n h2).trans (upd_n h1)
  have p3 : vf (rQ (rP r l 2) l e) l 3 = 2 := by
    show cl (upd _ _ _ _) = 2
    rw [upd_n (by omega)]
    show cl (upd _ _ _ _) = 2
    rw [upd_s, cl_nI (by omega)]
  have p5 : rQ (rP r l 2) l e (2131 + 333 * l + 5) = nI e - 1 := upd_s
  have hv : ∀ w, w ≠ 3 → w ≠ 5 → vf (rQ (rP r l 2) l e) l w = vf r l w := fun w h1 h2 => vfo (hne _ (by omega) (by omega))
  have hc : rCf (rQ (rP r l 2) l e) l = rCf r l := rCf_of (hv 2 (by omega) (by omega)) (hv 4 (by omega) (by omega)) (fun j hj => hv (47 + j) (by omega) (by omega))
  have key : ∀ k, k < lc → YL (rQ (rP r l 2) l e) k ∧ fl r k ≤ fl (rQ (rP r l 2) l e) k := fun k hk => by
    by_cases hkl : k = l
    · subst hkl
      refine ⟨⟨fun q => absurd p3 q, fun _ => ⟨e, p5, by rw [hc]; exact hlo, by rw [hv 4 (by omega) (by omega)]; exact hhi⟩⟩, ?_⟩
      unfold fl
      rw [if_neg (by omega), if_pos p3, p5, Int32.sub_add_cancel, cl_nI (by omega)]
      exact hlo
    · exact YL.congr (inv_l hI hk) (fun w _ => hne _ (by omega) (by omega)) (fun n e' _ _ q => by rw [hne _ (by omega) (by omega)]; exact q) (hY.2.2 k hk)
  refine ⟨⟨fun n' l' e' hn' hl' he' hs => ?_, fun n' i hn' hi h100 => ?_, fun k hk => (key k hk).1⟩, fun k hk => (key k hk).2⟩
  · rw [hne _ (by omega) (by omega)] at hs ⊢
    rw [vfo (hne _ (by omega) (by omega))]
    exact hY.1 n' l' e' hn' hl' he' hs
  · rw [hne _ (by omega) (by omega)] at hi
    rw [hne _ (by omega) (by omega)]
    exact hY.2.1 n' i hn' hi h100
/-- both: the last ensemble is fenced -/
theorem fence_both {f : Nat} : ∀ (d k : Nat) (r : Nat → Int32), Inv r nc lc → l < lc → k + d = vf r l 0 → f + 1 = vf r l 6 → ∃ r', Inv r' nc lc ∧ Ls r r' ∧ (∀ n, n < 8 → r' (3 + n) = r (3 + n)) ∧
    (∀ M g, gR M 4 = r → m_X6_recover_L60 3 (nI l) (d + g) (nI f) (nI k) M = m_X6_recover_L60 3 (nI l) g (nI f) (nI (vf r l 0)) (sR 4 r' M)) ∧
    (∀ M g, RC 64 r M → d < g → ∃ M', RC 64 r' M' ∧ Fg 64 M M' ∧ m_X3_fenceLastEnsemble_L2 64 (64 + 27 + 5 * l) g (nI k) M = some M') ∧ Go lc 0 r r' := by
  intro d
  induction d with
  | zero =>
    intro k r hI hl hk hf
    have hL := inv_l hI hl
    have hE := hL.2.1
    refine ⟨r, hI, fun _ _ => rfl, fun _ _ => rfl, fun M g hM => ?_, fun M g hR hg => ⟨M, hR, Fg.rf, ?_⟩, Go.rf⟩
    · rw [Nat.zero_add, show k = vf r l 0 by omega, ← hM, sR_id]
    · obtain ⟨g, rfl⟩ : ∃ k, g = k + 1 := ⟨g - 1, by omega⟩
      have h1 : gF M (64 + 27 + 5 * l) 1 = nI (vf r l 0) := by rw [(rc_l hR hI hl).2.1, hL.1 0 (by omega) (by omega)]
      rw [m_X3_fenceLastEnsemble_L2_s, h1, if_pos (nI_le (by omega) (by omega))]
  | succ d ih =>
    intro k r hI hl hk hf
    have hL := inv_l hI hl
    have hE := hL.2.1
    have h8 := hI.1
    have h4 := hI.2.1
    have h41 := hL.2.2.2.2.2.2.1.2
    have hn : mbf r l f k < nc := hL.2.2.2.2.2.2.2.2.2.2.1 f k (by omega) (by omega)
    generalize hnn : mbf r l f k = n at hn
    have hls : Ls r (rFe r n l) := fe_ls (by omega) (by omega)
    obtain ⟨r', hI', hls', hup, hr, hcl, hg2⟩ := ih (k + 1) (rFe r n l) (fe_I hI hn (by omega)) hl (by rw [lsv hls]; omega) (by rw [lsv hls]; exact hf)
    refine ⟨r', hI', hls.tr hls', fun j hj => (hup j hj).trans (fe_up hj), fun M g hM => ?_, fun M g hR hg => ?_, (fe_Go hI hn (by omega)).tr hg2⟩
    · have hIM : Inv (gR M 4) nc lc := by rw [hM]; exact hI
      have hof := of_o (M := M) (w := 0) hIM hl (by omega) (by omega)
      rw [hM] at hof
      have hme : m_X6_memberOf 3 (nI l) (nI f) (nI k) M = some (nI n) := by
        rw [memberOf_ok (by omega), hM, hL.1 (128 + 5 * f + k) (by omega) (by omega)]
        exact congrArg (fun x => some (nI x)) hnn
      rw [Nat.add_right_comm, m_X6_recover_L60_s, show m_X6_of 3 (nI l) 0 M = _ from hof, bind_s, if_neg (nI_ge (by omega) (by omega)), hme, bind_s, show (2099 : Int32) = nI 2099 from rfl, show (4 : Int32) = nI 4 from rfl, show (3 : Int32) + nI n = nI (3 + n) from nI_add 3 n, nI_mul, nI_add, nI_add, ck_ix (by omega) (by omega), ck_ix (by omega) (by omega), ck_ix (by omega) (by omega), aI_nI (by omega), cl_nI (by omega), cl_nI (by omega), hM, fe_or hI hn (by omega), nI_1, hr (sR 4 (rFe r n l) M) g gR_self, sR_sR, lsv hls]
    · obtain ⟨g, rfl⟩ : ∃ k, g = k + 1 := ⟨g - 1, by omega⟩
      have hC := rc_l hR hI hl
      have h1 : gF M (64 + 27 + 5 * l) 1 = nI (vf r l 0) := by rw [hC.2.1, hL.1 0 (by omega) (by omega)]
      have h7 : m_X0_lastFragment (64 + 27 + 5 * l) M = nI f := by
        unfold m_X0_lastFragment
        rw [hC.2.2.2.2.2.2.2.1, hL.1 6 (by omega) (by omega), ← hf, nI_sub1 (by omega), Nat.add_sub_cancel]
      have hno := nodeAt_ok (M := M) (f := f) (p := k) hC hL (by omega) (by omega)
      rw [hnn] at hno
      obtain ⟨q1, q2⟩ := fe_R (l := l) hR hI hn (by omega)
      rw [m_X3_fenceLastEnsemble_L2_s, h1, if_neg (nI_ge (by omega) (by omega)), h7, hno, bind_s, node_ok hR hI hn, bind_s, on_sm, (rc_n hR hI hn).1, hC.1, nI_1]
      rcases up01 hI hn with hu | hu
      · rw [if_pos hu]
        exact hcl M g (by rw [q2 hu]; exact hR) (by omega)
      · rw [if_neg (fun q => absurd (hu.symm.trans q) (by decide))]
        obtain ⟨R1, F1⟩ := q1 hu
        obtain ⟨M', R2, F2, e2⟩ := hcl _ g R1 (by omega)
        exact ⟨M', R2, F1.tr F2, e2⟩
end PH
