/-! replace: a new fragment -/
def rFm (r : Nat → Int32) (l F k : Nat) : Nat → Int32 := fun i => if 2131 + 333 * l + (128 + 5 * F) ≤ i ∧ i < 2131 + 333 * l + (128 + 5 * F) + k then r (i - 5) else r i
theorem rFm_s {r : Nat → Int32} {l f k : Nat} (hk : k < 5) : upd (rFm r l (f + 1) k) (2131 + 333 * l + (128 + 5 * (f + 1) + k)) (rFm r l (f + 1) k (2131 + 333 * l + (128 + 5 * f + k))) = rFm r l (f + 1) (k + 1) := by
  funext i
  by_cases hi : i = 2131 + 333 * l + (128 + 5 * (f + 1) + k)
  · subst hi
    rw [upd_s]
    unfold rFm
    rw [if_neg (fun q => by omega), if_pos ⟨by omega, by omega⟩]
    exact congrArg r (by omega)
  · rw [upd_n hi]
    unfold rFm
    by_cases hq : 2131 + 333 * l + (128 + 5 * (f + 1)) ≤ i ∧ i < 2131 + 333 * l + (128 + 5 * (f + 1)) + k
    · rw [if_pos hq, if_pos ⟨hq.1, by omega⟩]
    · rw [if_neg hq, if_neg (fun q => hq ⟨q.1, by omega⟩)]
/-- the row with a fragment more: f is the last one before -/
def rFg (r : Nat → Int32) (l f c : Nat) : Nat → Int32 := upd (upd (rFm r l (f + 1) 5) (2131 + 333 * l + (87 + (f + 1))) (nI c)) (2131 + 333 * l + 6) (nI (f + 2))
section FRG
variable {M : Mem} {a nc lc l f c : Nat} {r : Nat → Int32}
theorem fg_o {w : Nat} (h1 : w ≠ 6) (h2 : w ≠ 88 + f) (h3 : w < 133 + 5 * f ∨ 138 + 5 * f ≤ w) : rFg r l f c (2131 + 333 * l + w) = r (2131 + 333 * l + w) := by
  unfold rFg
  rw [upd_n (by omega), upd_n (by omega)]
  exact if_neg (fun q => by omega)
theorem fg_6 : rFg r l f c (2131 + 333 * l + 6) = nI (f + 2) := upd_s
theorem fg_s : rFg r l f c (2131 + 333 * l + (87 + (f + 1))) = nI c := by
  unfold rFg
  rw [upd_n (by omega), upd_s]
theorem fg_m {p : Nat} (hp : p < 5) (hf : f < 40) : rFg r l f c (2131 + 333 * l + (128 + 5 * (f + 1) + p)) = r (2131 + 333 * l + (128 + 5 * f + p)) := by
  unfold rFg
  rw [upd_n (by omega), upd_n (by omega)]
  unfold rFm
  rw [if_pos ⟨by omega, by omega⟩]
  exact congrArg r (by omega)
theorem fg_v {w : Nat} (h1 : w ≠ 6) (h2 : w ≠ 88 + f) (h3 : w < 133 + 5 * f ∨ 138 + 5 * f ≤ w) : vf (rFg r l f c) l w = vf r l w := vf_o (fg_o h1 h2 h3)
theorem LI.fg (hI : LI r nc l) (hf : f + 1 = vf r l 6) (hf40 : f < 40) (hlt : vf r l (87 + f) < c) (hc : c ≤ vf r l 4) (hq : ∀ e, e < c → vf r l 2 ≤ pc (vf r l (47 + e))) : LI (rFg r l f c) nc l := by
  have h40 := hI.2.2.2.2.2.1
  have hv : ∀ w, w ≠ 6 → w ≠ 88 + f → (w < 133 + 5 * f ∨ 138 + 5 * f ≤ w) → vf (rFg r l f c) l w = vf r l w := fun w h1 h2 h3 => fg_v h1 h2 h3
  have h0 := hv 0 (by omega) (by omega) (by omega)
  have h1 := hv 1 (by omega) (by omega) (by omega)
  have h2 := hv 2 (by omega) (by omega) (by omega)
  have h3 := hv 3 (by omega) (by omega) (by omega)
  have h4 := hv 4 (by omega) (by omega) (by omega)
  have h6 : vf (rFg r l f c) l 6 = f + 2 := vf_is fg_6 (by omega)
  have hs : vf (rFg r l f c) l (87 + (f + 1)) = c := vf_is fg_s (by omega)
  have va : ∀ g, g < f + 1 → vf (rFg r l f c) l (87 + g) = vf r l (87 + g) := fun g hg => hv (87 + g) (by omega) (by omega) (by omega)
  obtain ⟨a0, a1, a2, a3, a4, a5, a6, a7, a8, a9, b0, b1, b2, b3, b4, k, hk, b5⟩ := hI
  have vm : ∀ g p, g < f + 1 → p < 5 → mbf (rFg r l f c) l g p = mbf r l g p := fun g p hg hp => hv (128 + 5 * g + p) (by omega) (by omega) (by omega)
  have vn : ∀ p, p < 5 → mbf (rFg r l f c) l (f + 1) p = mbf r l f p := fun p hp => by
    show cl (rFg r l f c _) = cl (r _)
    rw [fg_m hp hf40]
  have k47 : ∀ e, e < 40 → vf (rFg r l f c) l (47 + e) = vf r l (47 + e) := fun e he => hv (47 + e) (by omega) (by omega) (by omega)
  unfold LI
  rw [h0, h1, h2, h3, h4, h6, show vf (rFg r l f c) l 87 = vf r l 87 from va 0 (by omega), show 87 + (f + 2 - 1) = 87 + (f + 1) from rfl, hs]
  refine ⟨fun w hw hw5 => ?_, a1, a2, a3, a4, a5, by omega, a7, fun g hg => ?_, hc, fun g p hg hp => ?_, fun g p q hg hp hq => ?_, fun e he => ?_, fun e he => ?_, fun z e he => ?_, k, hk, ?_⟩
  · by_cases q6 : w = 6
    · subst q6
      rw [h6]; exact fg_6
    · by_cases qs : w = 88 + f
      · rw [show w = 87 + (f + 1) by omega, hs]; exact fg_s
      · by_cases qm : w < 133 + 5 * f ∨ 138 + 5 * f ≤ w
        · rw [hv w q6 qs qm, fg_o q6 qs qm]; exact a0 w hw hw5
        · have e1 := fg_m (r := r) (l := l) (f := f) (c := c) (p := w - (133 + 5 * f)) (by omega) hf40
          rw [show 128 + 5 * (f + 1) + (w - (133 + 5 * f)) = w by omega] at e1
          have e2 := a0 (128 + 5 * f + (w - (133 + 5 * f))) (by omega) (by omega)
          rw [vf_is (e1.trans e2) cl_lt, e1]
          exact e2
  · by_cases hg2 : g = f
    · rw [hg2, hs, va f (by omega)]; exact hlt
    · rw [va g (by omega), va (g + 1) (by omega)]; exact a8 g (by omega)
  · by_cases hg2 : g = f + 1
    · rw [hg2, vn p (by omega)]; exact b0 f p (by omega) hp
    · rw [vm g p (by omega) (by omega)]; exact b0 g p (by omega) hp
  · by_cases hg2 : g = f + 1
    · rw [hg2, vn p (by omega), vn q (by omega)]; exact b1 f p q (by omega) hp hq
    · rw [vm g p (by omega) (by omega), vm g q (by omega) (by omega)]; exact b1 g p q (by omega) hp hq
  · rw [k47 e (by omega)]; exact b2 e he
  · rw [hv (7 + e) (by omega) (by omega) (by omega)]; exact b3 e he
  · rw [k47 e (by omega)]; exact hq e he
  · rw [fg_o (w := 5) (by omega) (by omega) (by omega)]; exact b5
theorem fg_l {i : Nat} (hf : f < 40) (h : ¬ lIx l i) : rFg r l f c i = r i := by
  unfold lIx at h
  unfold rFg
  rw [upd_n (by omega), upd_n (by omega)]
  exact if_neg (fun q => by omega)
theorem fg_I (hI : Inv r nc lc) (hl : l < lc) (hf : f + 1 = vf r l 6) (hf40 : f < 40) (hlt : vf r l (87 + f) < c) (hc : c ≤ vf r l 4) (hq : ∀ e, e < c → vf r l 2 ≤ pc (vf r l (47 + e))) : Inv (rFg r l f c) nc lc :=
  hI.led hl (fun i hi => fg_l hf40 hi) (Nat.le_of_eq (fg_v (by omega) (by omega) (by omega)).symm) ((inv_l hI hl).fg hf hf40 hlt hc hq)
theorem nodeAt_w {p : Nat} (hf : f < 41) (hp : p < 5) : m_X0_nodeAt a (nI f) (nI p) M = some (gR M (a + 4) (5 * f + p)) := by
  unfold m_X0_nodeAt
  rw [place_ok hf hp, if_neg (nI_pos (by omega)), Ln 205, if_pos (nI_lt (by omega) (by omega)), ck_ix (by omega) (by omega), cl_nI (by omega)]
theorem af_loop {E : Nat} {x : Int32} (hE : E ≤ 5) (hf : f < 40) : ∀ (d k g : Nat) (M : Mem), k + d = E → d < g → gF M a 1 = nI E → gF M a 7 = nI (f + 1) → ∃ q, m_X0_addFragment_L29 a x g (nI (f + 1)) (nI k) M = some (sF a 7 (nI (f + 2)) (sR (a + 4) q M)) ∧ (∀ p, k ≤ p → p < E → q (5 * (f + 1) + p) = gR M (a + 4) (5 * f + p)) ∧ ∀ j, (j < 5 * (f + 1) + k ∨ 5 * (f + 1) + E ≤ j) → q j = gR M (a + 4) j := by
  intro d
  induction d with
  | zero =>
    intro k g M h1 h2 h3 h4
    obtain ⟨g, rfl⟩ : ∃ k, g = k + 1 := ⟨g - 1, by omega⟩
    refine ⟨gR M (a + 4), ?_, fun p hp hp2 => by omega, fun _ _ => rfl⟩
    rw [m_X0_addFragment_L29_s, h3, if_pos (nI_le (by omega) (by omega)), h4, nI_1, sR_id]
  | succ d ih =>
    intro k g M h1 h2 h3 h4
    obtain ⟨g, rfl⟩ : ∃ k, g = k + 1 := ⟨g - 1, by omega⟩
    obtain ⟨q, e1, e2, e3⟩ := ih (k + 1) g (sR (a + 4) (upd (gR M (a + 4)) (5 * (f + 1) + k) (gR M (a + 4) (5 * f + k))) M) (by omega) (by omega) h3 h4
    rw [gR_self] at e2 e3
    refine ⟨q, ?_, fun p hp hp2 => ?_, fun j hj => ?_⟩
    · rw [m_X0_addFragment_L29_s, h3, if_neg (nI_ge (by omega) (by omega)), nI_sub1 (by omega), Nat.add_sub_cancel, nodeAt_w (by omega) (by omega), bind_s, setN_ok (by omega) (by omega), bind_s, nI_1, e1, sR_sR]
    · by_cases hq : p = k
      · rw [hq, e3 _ (by omega), upd_s]
      · rw [e2 p (by omega) hp2, upd_n (by omega)]
    · rw [e3 j (by omega), upd_n (by omega)]
theorem fg_R (hR : RC 64 r M) (hI : Inv r nc lc) (hl : l < lc) (hf : f + 1 = vf r l 6) (hf40 : f < 40) : ∃ M', m_X0_addFragment (64 + 27 + 5 * l) (nI c) M = some M' ∧ RC 64 (rFg r l f c) M' ∧ Fg 64 M M' := by
  have h4' := hI.2.1
  have hL := inv_l hI hl
  have hC := rc_l hR hI hl
  have hE := hL.2.1
  have h40 := hL.2.2.2.2.2.1
  have h7 : gF M (64 + 27 + 5 * l) 7 = nI (f + 1) := by rw [hC.2.2.2.2.2.2.2.1, hL.1 6 (by omega) (by omega), hf]
  have h1 : gF M (64 + 27 + 5 * l) 1 = nI (vf r l 0) := by rw [hC.2.1, hL.1 0 (by omega) (by omega)]
  generalize ha : 64 + 27 + 5 * l = a at hC h7 h1
  obtain ⟨q, e1, e2, e3⟩ := af_loop (a := a) (f := f) (x := nI c) hE.2 hf40 (vf r l 0) 0 fuel (sR (a + 3) (upd (gR M (a + 3)) (f + 1) (nI c)) M) (by omega) (by unfold fuel; omega) h1 h7
  rw [gR_ne (c := a + 3) (c' := a + 4) (by omega)] at e2 e3
  have v6 : vf (rFg r l f c) l 6 = f + 2 := vf_is fg_6 (by omega)
  have v0 : vf (rFg r l f c) l 0 = vf r l 0 := fg_v (by omega) (by omega) (by omega)
  have v4 : vf (rFg r l f c) l 4 = vf r l 4 := fg_v (by omega) (by omega) (by omega)
  have hCL : CL (sF a 7 (nI (f + 2)) (sR (a + 4) q (sR (a + 3) (upd (gR M (a + 3)) (f + 1) (nI c)) M))) a (rFg r l f c) l := by
    obtain ⟨g0, g1, g2, g3, g4, g5, g6, g7, g8, g9, g10, g11⟩ := hC
    have hs : ∀ k, k ≠ 7 → gF (sF a 7 (nI (f + 2)) (sR (a + 4) q (sR (a + 3) (upd (gR M (a + 3)) (f + 1) (nI c)) M))) a k = gF M a k := fun k hk => gF_ne hk
    refine ⟨by rw [hs 0 (by omega), g0], by rw [hs 1 (by omega), g1, fg_o (by omega) (by omega) (by omega)], by rw [hs 2 (by omega), g2, fg_o (by omega) (by omega) (by omega)], by rw [hs 3 (by omega), g3, fg_o (by omega) (by omega) (by omega)], by rw [hs 4 (by omega), g4, fg_o (by omega) (by omega) (by omega)], by rw [hs 5 (by omega), g5, fg_o (by omega) (by omega) (by omega)], by rw [hs 6 (by omega), g6, fg_o (by omega) (by omega) (by omega)], by rw [gF_self, fg_6], fun k hk hk40 => ?_, fun k hk hk40 => ?_, fun g hg hg41 => ?_, fun g p hg hp hg41 hp5 => ?_⟩
    · rw [v4] at hk
      rw [gR_sF, gR_ne (by omega), gR_ne (by omega), g8 k hk hk40, fg_o (by omega) (by omega) (by omega)]
    · rw [v4] at hk
      rw [gR_sF, gR_ne (by omega), gR_ne (by omega), g9 k hk hk40, fg_o (by omega) (by omega) (by omega)]
    · rw [v6] at hg
      rw [gR_sF, gR_ne (by omega), gR_self]
      by_cases hq : g = f + 1
      · rw [hq, upd_s, fg_s]
      · rw [upd_n hq, g10 g (by omega) hg41, fg_o (by omega) (by omega) (by omega)]
    · rw [v6] at hg
      rw [v0] at hp
      rw [gR_sF, gR_self]
      by_cases hq : g = f + 1
      · rw [hq, e2 p (by omega) hp, g11 f p (by omega) hp (by omega) hp5, fg_m hp5 hf40]
      · rw [e3 _ (by omega), g11 g p (by omega) hp hg41 hp5, fg_o (by omega) (by omega) (by omega)]
  refine ⟨_, ?_, RC.led (M' := sF a 7 (nI (f + 2)) (sR (a + 4) q (sR (a + 3) (upd (gR M (a + 3)) (f + 1) (nI c)) M))) hR hI hl (by rw [ha]; exact ((Fc.rf.sR (by omega)).sR (by omega)).sF (by omega)) (fun i hi => fg_l hf40 hi) (by rw [ha]; exact hCL), ((Fg.rf.sR (by omega)).sR (by omega)).sF (by omega) (Or.inl (by decide))⟩
  unfold m_X0_addFragment
  rw [h7, if_neg (show ¬ nI (f + 1) < 1 from nI_nlt (b := 1) (by omega) (by omega)), show (41 : Int32) = nI 41 from rfl, if_pos (nI_lt (by omega) (by omega)), ck_ix (by omega) (by omega), aI_nI (by omega)]
  exact e1
theorem fg_ref {pos : Nat} {v5 v6 v8 : Int32} (hl : l < 4) (hf40 : f < 40) : ∀ (d k g : Nat), k + d = 5 → d < g → m_X6_replace_L149 3 (nI l) (nI pos) g (nI f) v5 v6 (nI c) v8 (nI k) (sR 4 (rFm r l (f + 1) k) M) = m_X6_replace_b214 3 (nI l) (nI pos) (nI (f + 1)) v5 v6 (nI c) v8 (sR 4 (rFg r l f c) M) := by
  intro d
  induction d with
  | zero =>
    intro k g h1 h2
    obtain ⟨g, rfl⟩ : ∃ k, g = k + 1 := ⟨g - 1, by omega⟩
    obtain rfl : k = 5 := by omega
    rw [m_X6_replace_L149_s, if_pos (show (5 : Int32) ≤ nI 5 by decide), nI_1, show (87 : Int32) = nI 87 from rfl, nI_add, set_ok (by omega), bind_s, nI_1, show m_X6_set 3 (nI l) 6 _ _ = _ from set_ok (w := 6) (by omega), bind_s, gR_self, gR_self, sR_sR, sR_sR]
    rfl
  | succ d ih =>
    intro k g h1 h2
    obtain ⟨g, rfl⟩ : ∃ k, g = k + 1 := ⟨g - 1, by omega⟩
    rw [m_X6_replace_L149_s, show (5 : Int32) = nI 5 from rfl, if_neg (nI_ge (by omega) (by omega)), memberOf_ok (by omega), bind_s, nI_1 f, nI_mul, show (128 : Int32) = nI 128 from rfl, nI_add, nI_add, set_ok (by omega), bind_s, gR_self, sR_sR, rFm_s (by omega), nI_1 k]
    exact ih (k + 1) g (by omega) (by omega)
end FRG
section FRGY
variable {nc lc l f c : Nat} {r : Nat → Int32}
/-- a fragment more, and what is confirmed -/
theorem Y.fg (hI : Inv r nc lc) (hl : l < lc) (h0 : vf r l 3 = 0) (hf : f + 1 = vf r l 6) (hf40 : f < 40) (hlt : vf r l (87 + f) < c) (hc : c ≤ vf r l 4) (hq : ∀ e, e < c → vf r l 2 ≤ pc (vf r l (47 + e))) (hY : Y r lc) : Y (rFg r l f c) lc ∧ ∀ k, k < lc → fl r k ≤ fl (rFg r l f c) k := by
  have h4 := hI.2.1
  have hL := inv_l hI hl
  have h40 := hL.2.2.2.2.2.1
  have hE := hL.2.1
  have hl_ : ∀ i, ¬ lIx l i → rFg r l f c i = r i := fun i hi => fg_l hf40 hi
  have hv : ∀ w, w ≠ 6 → w ≠ 88 + f → (w < 133 + 5 * f ∨ 138 + 5 * f ≤ w) → vf (rFg r l f c) l w = vf r l w := fun w h1 h2 h3 => fg_v h1 h2 h3
  have v0 := hv 0 (by omega) (by omega) (by omega)
  have v1 := hv 1 (by omega) (by omega) (by omega)
  have v2 := hv 2 (by omega) (by omega) (by omega)
  have v3 := hv 3 (by omega) (by omega) (by omega)
  have v4 := hv 4 (by omega) (by omega) (by omega)
  have v6 : vf (rFg r l f c) l 6 = f + 2 := vf_is fg_6 (by omega)
  have hs : vf (rFg r l f c) l (87 + (f + 1)) = c := vf_is fg_s (by omega)
  have va : ∀ g, g < f + 1 → vf (rFg r l f c) l (87 + g) = vf r l (87 + g) := fun g hg => hv (87 + g) (by omega) (by omega) (by omega)
  have vm : ∀ g p, g < f + 1 → p < 5 → mbf (rFg r l f c) l g p = mbf r l g p := fun g p hg hp => hv (128 + 5 * g + p) (by omega) (by omega) (by omega)
  have vn : ∀ p, p < 5 → mbf (rFg r l f c) l (f + 1) p = mbf r l f p := fun p hp => by
    show cl (rFg r l f c _) = cl (r _)
    rw [fg_m hp hf40]
  have k47 : ∀ e, e < 40 → vf (rFg r l f c) l (47 + e) = vf r l (47 + e) := fun e he => hv (47 + e) (by omega) (by omega) (by omega)
  have hcf : rCf (rFg r l f c) l = rCf r l := rCf_of v2 v4 (fun k hk => k47 k (by omega))
  have hfr : ∀ e, frg (rFg r l f c) l e = if c ≤ e then f + 1 else frg r l e := fun e => by
    show rFr (fun f' => vf (rFg r l f c) l (87 + f')) e (vf (rFg r l f c) l 6) = _
    rw [v6]
    show (if vf (rFg r l f c) l (87 + (f + 1)) ≤ e then f + 1 else rFr (fun f' => vf (rFg r l f c) l (87 + f')) e (f + 1)) = _
    rw [hs]
    by_cases hce : c ≤ e
    · rw [if_pos hce, if_pos hce]
    · rw [if_neg hce, if_neg hce, hf]
      exact rFr_congr _ (fun g hg => va g (by omega))
  have hws : ∀ e, wsM (rFg r l f c) l (frg (rFg r l f c) l e) e = wsM r l (frg r l e) e := fun e => by
    show orB (fun i => mbf (rFg r l f c) l (frg (rFg r l f c) l e) ((e + i) % vf (rFg r l f c) l 0)) (vf (rFg r l f c) l 1) = orB (fun i => mbf r l (frg r l e) ((e + i) % vf r l 0)) (vf r l 1)
    rw [v0, v1, hfr]
    refine orB_congr (fun i _ => ?_)
    have := Nat.mod_lt (e + i) (show 0 < vf r l 0 by omega)
    by_cases hce : c ≤ e
    · rw [if_pos hce, frg_last hf (by omega)]
      exact vn _ (by omega)
    · rw [if_neg hce]
      have := frg_lt (e := e) hL
      exact vm _ _ (by omega) (by omega)
  have key : ∀ k, k < lc → YL (rFg r l f c) k ∧ fl r k ≤ fl (rFg r l f c) k := fun k hk => by
    by_cases hkl : k = l
    · subst hkl
      obtain ⟨hK, -⟩ := (hY.2.2 k hk).1 (by omega)
      refine ⟨⟨fun _ => ⟨fun e n he hn hb => ?_, fun e he => ?_⟩, fun q => by omega⟩, ?_⟩
      · rw [v4] at he
        rw [k47 e (by omega)] at hb
        rw [hl_ _ (by unfold lIx; omega), hws]
        exact hK e n he hn hb
      · rw [v6, show 87 + (f + 2 - 1) = 87 + (f + 1) from rfl, hs] at he
        rw [v2, k47 e (by omega)]
        exact hq e he
      · unfold fl
        rw [if_neg (by omega), if_neg (by omega), hcf]
        exact Nat.le_refl _
    · exact YL.congr (inv_l hI hk) (fun w _ => hl_ _ (by unfold lIx; omega)) (fun n e _ _ q => by rw [hl_ _ (by unfold lIx; omega)]; exact q) (hY.2.2 k hk)
  refine ⟨⟨fun n' l' e' hn' hl' he' hs' => ?_, fun n' i hn' hi h100 => ?_, fun k hk => (key k hk).1⟩, fun k hk => (key k hk).2⟩
  · rw [hl_ _ (by unfold lIx; omega)] at hs' ⊢
    obtain ⟨a, b⟩ := hY.1 n' l' e' hn' hl' he' hs'
    refine ⟨?_, b⟩
    by_cases hq' : l' = l
    · subst hq'; omega
    · rw [vfo (hl_ _ (by unfold lIx; omega))]; exact a
  · rw [hl_ _ (by unfold lIx; omega)] at hi
    rw [hl_ _ (by unfold lIx; omega)]
    exact hY.2.1 n' i hn' hi h100
end FRGY

