/-! recover -/
section REC
variable {nc lc l e : Nat} {r : Nat → Int32}
theorem close_c {M : Mem} (hI : Inv r nc lc) (hl : l < lc) (he : e ≤ 40) (hR : RC 64 r M) : ∃ M', RC 64 (rQ (rP r l 2) l e) M' ∧ Fg 64 M M' ∧ m_X3_recoverLedger_b50 64 (64 + 27 + 5 * l) (nI e) M = some (nI e - 1, M') := by
  have h4 := hI.2.1
  have I1 := ph_I hI hl (v := 2) (by omega)
  have R1 := ph_R (v := 2) hR hI hl
  have R2 := la_R (s := e) R1 I1 hl
  refine ⟨_, R2, (Fg.rf.sF (by omega) (Or.inl (by decide))).sF (by omega) (Or.inl (by decide)), ?_⟩
  unfold m_X3_recoverLedger_b50
  rw [gF_self]
  rfl
theorem close_r {M : Mem} {g : Nat} (hI : Inv r nc lc) (hl : l < lc) (hM : gR M 4 = r) : m_X6_recover_L151 3 (nI l) (g + 1) (nI e) (-1) M = some (nI e - 1, sR 4 (rQ (rP r l 2) l e) M) := by
  have h4 := hI.2.1
  rw [m_X6_recover_L151_s, if_pos rfl, show m_X6_set 3 (nI l) 3 2 M = _ from set_ok (w := 3) (by omega), bind_s, show m_X6_set 3 (nI l) 5 _ _ = _ from set_ok (w := 5) (by omega), bind_s, gR_self, sR_sR, hM]
  rfl
theorem rUd_ls {f : Nat} {r' : Nat → Int32} (hI : Inv r nc lc) (hl : l < lc) (hls : Ls r r') (hup : ∀ k, k < 8 → r' (3 + k) = r (3 + k)) (hf : f < vf r l 6) : ∀ {d e : Nat}, rUd r' l f d e = rUd r l f d e := by
  have h8 := hI.1
  have hL := inv_l hI hl
  have hE := hL.2.1
  intro d
  induction d with
  | zero => intro e; rfl
  | succ d ih =>
    intro e
    have hd : rDn r' l f e (vf r l 1) = rDn r l f e (vf r l 1) := by
      unfold rDn
      refine cnt_congr (fun i _ => ?_)
      have hn := ws_lt (e := e) (i := i) hL hf
      rw [lsv hls, show mbf r' l f ((e + i) % vf r l 0) = mbf r l f ((e + i) % vf r l 0) from lsv hls, hup _ (by omega)]
    rw [rUd_s, rUd_s, ih, lsv hls, lsv hls, hd]
theorem rec_both : ∀ (d e : Nat) (r : Nat → Int32), e + d = 40 → Inv r nc lc → l < lc → ∃ (s : Nat) (r' : Nat → Int32), Inv r' nc lc ∧
    (∀ M g, gR M 4 = r → d + 1 < g → m_X6_recover_L151 3 (nI l) g (nI e) (if e = 40 then -1 else on1 (rSrc r l e (frg r l e) (vf r l 1) 0)) M = some (nI s - 1, sR 4 r' M)) ∧
    (∀ M g, RC 64 r M → d + 1 < g → ∃ M', RC 64 r' M' ∧ Fg 64 M M' ∧ m_X3_recoverLedger_L29 64 (64 + 27 + 5 * l) g (nI e) M = some (nI s - 1, M')) ∧
    (vf r l 3 = 1 → rUd r l (vf r l 6 - 1) (vf r l 0) 0 = false → vf r l (87 + (vf r l 6 - 1)) ≤ e → e ≤ vf r l 4 → Y r lc → Y r' lc ∧ ∀ k, k < lc → fl r k ≤ fl r' k) ∧ r' 2 = r 2 ∧ Ke lc r r' := by
  intro d
  induction d with
  | zero =>
    intro e r he hI hl
    refine ⟨e, rQ (rP r l 2) l e, la_I (ph_I hI hl (by omega)) hl (by omega), fun M g hM hg => ?_, fun M g hR hg => ?_, fun h3 _ _ h4e hY => Y.close hI hl h3 (by have := rCf_le (r := r) (l := l); have := (inv_l hI hl).2.2.2.2.2.1; omega) h4e hY, (upd_n (by omega)).trans (upd_n (by omega)), Ke.of hI.2.1 (fun m hm => (upd_n (by omega)).trans (upd_n (by omega))) (fun k hk => (upd_n (by omega)).trans (upd_n (by omega)))⟩
    · obtain ⟨g, rfl⟩ : ∃ k, g = k + 1 := ⟨g - 1, by omega⟩
      rw [if_pos (by omega)]
      exact close_r hI hl hM
    · obtain ⟨g, rfl⟩ : ∃ k, g = k + 1 := ⟨g - 1, by omega⟩
      obtain ⟨M', R1, F1, e1⟩ := close_c (e := e) hI hl (by omega) hR
      refine ⟨M', R1, F1, ?_⟩
      rw [m_X3_recoverLedger_L29_s, show (40 : Int32) = nI 40 from rfl, if_pos (nI_le (by omega) (by omega))]
      exact e1
  | succ d ih =>
    intro e r he hI hl
    have h8 := hI.1
    have h4 := hI.2.1
    have hL := inv_l hI hl
    have he40 : e < 40 := by omega
    cases hs : rSrc r l e (frg r l e) (vf r l 1) 0 with
    | none =>
      refine ⟨e, rQ (rP r l 2) l e, la_I (ph_I hI hl (by omega)) hl (by omega), fun M g hM hg => ?_, fun M g hR hg => ?_, fun h3 hud hse h4e hY => Y.close hI hl h3 (qrm (f := vf r l 6 - 1) hI hl ((hY.2.2 l hl).1 (by omega)).1 (by have := hL.2.2.2.2.2.2.1; omega) hud hse hs) h4e hY, (upd_n (by omega)).trans (upd_n (by omega)), Ke.of hI.2.1 (fun m hm => (upd_n (by omega)).trans (upd_n (by omega))) (fun k hk => (upd_n (by omega)).trans (upd_n (by omega)))⟩
      · obtain ⟨g, rfl⟩ : ∃ k, g = k + 1 := ⟨g - 1, by omega⟩
        rw [if_neg (by omega)]
        exact close_r hI hl hM
      · obtain ⟨g, rfl⟩ : ∃ k, g = k + 1 := ⟨g - 1, by omega⟩
        obtain ⟨M', R1, F1, e1⟩ := close_c (e := e) hI hl (by omega) hR
        refine ⟨M', R1, F1, ?_⟩
        rw [m_X3_recoverLedger_L29_s, show (40 : Int32) = nI 40 from rfl, if_neg (nI_ge (by omega) (by omega))]
        unfold m_X3_recoverEntry
        rw [first_ok hR hI hl (rc_l hR hI hl) he40, bind_s, hs, show cpy1 r l e none = -1 from rfl, if_pos rfl, bind_s]
        exact e1
    | some n =>
      obtain ⟨hu, hv0, j, hj⟩ := rSrc_some _ _ hs
      have hn : n < nc := by
        rw [hj]
        exact ws_lt hL (frg_lt hL)
      rcases sc_at (inv_n hI hn) (show l < 4 by omega) he40 with hz | ⟨p, c, hp, hc, hv⟩
      · exact absurd hz hv0
      · have hI1 := (spr_I (p := p) (c := e) hp (by omega) he40 (vf r l 1) 0 r hI hl (frg_lt (e := e) hL)).1
        obtain ⟨s, r', hI', hr, hcl, hy, h2, hke⟩ := ih (e + 1) _ (by omega) hI1 hl
        refine ⟨s, r', hI', fun M g hM hg => ?_, fun M g hR hg => ?_, fun h3 hud hse h4e hY => ?_, h2.trans (spr_2 he40 _ _ _), (spr_Ke (c := e) hI hl hp (by omega) he40 (frg_lt (e := e) hL)).tr hke⟩
        · obtain ⟨g, rfl⟩ : ∃ k, g = k + 1 := ⟨g - 1, by omega⟩
          have hrec := recE_ok (M := M) (p := p) (e := e) hp he40 (by rw [hM]; exact hI) hl
          rw [hM] at hrec
          rw [if_neg (show ¬ e = 40 by omega), show on1 (some n) = nI n from rfl, m_X6_recover_L151_s, if_neg (nI_m1 (by omega)), payloadAt_ok (by omega), bind_s, hM, hv, show (64 : Int32) = nI 64 from rfl, nI_div (by omega) (by omega), nI_sub1 (by omega), show (64 * (p + 1) + c) / 64 - 1 = p by omega, hrec, bind_s, nI_1]
          have hrr := hr (sR 4 (rSpr l e (frg r l e) p e (vf r l 1) 0 r) M) g gR_self (by omega)
          by_cases h40 : e + 1 = 40
          · rw [if_pos h40] at hrr
            rw [show (40 : Int32) = nI 40 from rfl, if_pos (nI_le (by omega) (by omega)), hrr, sR_sR]
          · rw [if_neg h40] at hrr
            have hso := source_ok (M := sR 4 (rSpr l e (frg r l e) p e (vf r l 1) 0 r) M) (e := e + 1) (by rw [gR_self]; exact hI1) hl (by omega)
            rw [gR_self] at hso
            rw [show (40 : Int32) = nI 40 from rfl, if_neg (nI_ge (by omega) (by omega)), hso, bind_s, hrr, sR_sR]
        · obtain ⟨g, rfl⟩ : ∃ k, g = k + 1 := ⟨g - 1, by omega⟩
          have hC := rc_l hR hI hl
          obtain ⟨N, R1, F1, e1⟩ := spread_ok (p := p) (c := e) hp (by omega) he40 hI hl hR
          obtain ⟨M', R2, F2, e2⟩ := hcl N g R1 (by omega)
          refine ⟨M', R2, F1.tr F2, ?_⟩
          have hcp : cpy1 r l e (some n) = nI (pz l e c p) := by
            show stc l e (r (819 + 160 * n + 40 * l + e)) = _
            rw [hv, stc_v hp hc]
          rw [m_X3_recoverLedger_L29_s, show (40 : Int32) = nI 40 from rfl, if_neg (nI_ge (by omega) (by omega))]
          unfold m_X3_recoverEntry
          rw [first_ok hR hI hl hC he40, bind_s, hs, hcp, if_neg (nI_m1 (pz_lt (by omega) (by omega) (by omega) (by omega))), pz_p (by omega) (by omega) (by omega) (by omega), hC.1, of_pz (by omega) (by omega) (by omega) (by omega), e1, bind_s, bind_s, if_neg (show ¬ ((1 : Int32), N).1 = 0 from ne10), nI_1]
          exact e2
        · obtain ⟨-, hls, hups⟩ := spr_I (p := p) (c := e) hp (by omega) he40 (vf r l 1) 0 r hI hl (frg_lt (e := e) hL)
          have he4 : e < vf r l 4 := (hY.1 n l e (by omega) (by omega) he40 hv0).1
          obtain ⟨Y1, f1⟩ := (spr_Go (c := e) hp he40 (Nat.le_refl _) (vf r l 1) 0 r hI hl (frg_lt (e := e) hL) he4).1 hY
          obtain ⟨Y2, f2⟩ := hy (by rw [lsv hls]; exact h3) (by rw [lsv hls, lsv hls, rUd_ls hI hl hls hups (by have := hL.2.2.2.2.2.2.1; omega)]; exact hud) (by rw [lsv hls, lsv hls]; omega) (by rw [lsv hls]; omega) Y1
          exact ⟨Y2, fun k hk => Nat.le_trans (f1 k hk) (f2 k hk)⟩
theorem recover_both (hI : Inv r nc lc) (hl : l < lc) (h3 : vf r l 3 ≠ 2) : ∃ (v : Int32) (r' : Nat → Int32), Inv r' nc lc ∧
    (∀ M, gR M 4 = rP r l 1 → m_X6_recover_L60 3 (nI l) fuel (nI (vf r l 6 - 1)) (nI 0) M = some (v, sR 4 r' M)) ∧
    (∀ M, RC 64 r M → ∃ M', RC 64 r' M' ∧ Fg 64 M M' ∧ m_X3_recoverLedger 64 (64 + 27 + 5 * l) M = some (v, M')) ∧ Go lc 0 r r' := by
  have h4 := hI.2.1
  have hL := inv_l hI hl
  have hF := hL.2.2.2.2.2.2.1
  have hE := hL.2.1
  have I1 := ph_I hI hl (v := 1) (by omega)
  have v6 : vf (rP r l 1) l 6 = vf r l 6 := vf_o (upd_n (by omega))
  have v0 : vf (rP r l 1) l 0 = vf r l 0 := vf_o (upd_n (by omega))
  obtain ⟨f, hf⟩ : ∃ f, f + 1 = vf r l 6 := ⟨vf r l 6 - 1, by omega⟩
  rw [show vf r l 6 - 1 = f by omega]
  obtain ⟨r2, I2, L2, hup2, hr2, hc2, hgf⟩ := fence_both (f := f) (vf r l 0) 0 (rP r l 1) I1 hl (by omega) (by omega)
  have hL2 := inv_l I2 hl
  have hg0 : Go lc 0 r (rP r l 1) := ⟨fun hY => Y.ph hI hl h3 hY, fun k hk => ⟨k, (upd_n (by omega)).trans hk, by omega⟩, Ke.of h4 (fun m hm => upd_n (by omega)) (fun k hk => upd_n (by omega))⟩
  have hg2 : Go lc 0 r r2 := hg0.tr hgf
  have w3 : vf r2 l 3 = 1 := (lsv L2).trans (vf_is upd_s (by omega))
  have w6 : vf r2 l 6 = vf r l 6 := (lsv L2).trans v6
  have w0 : vf r2 l 0 = vf r l 0 := (lsv L2).trans v0
  have h40 : vf r2 l (87 + f) ≤ 40 := by
    have h1 := hL2.2.2.2.2.2.2.2.2.2.1
    have h2 := hL2.2.2.2.2.2.1
    rw [w6, ← hf, Nat.add_sub_cancel] at h1
    omega
  have hmx := rMx_le I2 hl (f := f) (by omega) (vf r2 l 0) 0 (vf r2 l (87 + f)) (by omega) h40
  have hend : ∀ M g, gR M 4 = r2 → m_X6_recover_L60 3 (nI l) (g + 1) (nI f) (nI (vf r l 0)) M = if rUd r2 l f (vf r2 l 0) 0 = true then some (-2, M) else m_X6_recover_L151 3 (nI l) fuel (nI (rMx r2 l f (vf r2 l 0) 0 (vf r2 l (87 + f)))) (if rMx r2 l f (vf r2 l 0) 0 (vf r2 l (87 + f)) = 40 then -1 else on1 (rSrc r2 l (rMx r2 l f (vf r2 l 0) 0 (vf r2 l (87 + f))) (frg r2 l (rMx r2 l f (vf r2 l 0) 0 (vf r2 l (87 + f)))) (vf r2 l 1) 0)) M := fun M g hM => by
    have hIM : Inv (gR M 4) nc lc := by rw [hM]; exact I2
    have hof := of_o (M := M) (w := 0) hIM hl (by omega) (by omega)
    have hud := ud_ok (M := M) (f := f) hIM hl (by rw [hM]; omega)
    have hsc := sc_ok (M := M) (f := f) hIM hl (by rw [hM]; omega) (by rw [hM]; exact h40)
    rw [hM] at hof hud hsc
    rw [m_X6_recover_L60_s, show m_X6_of 3 (nI l) 0 M = _ from hof, bind_s, if_pos (nI_le (by omega) (by omega)), hud, bind_s, hsc, bind_s, Int32.sub_add_cancel]
    by_cases hq : rUd r2 l f (vf r2 l 0) 0 = true
    · rw [if_pos hq, if_pos hq, if_neg (show ¬ (1 : Int32) = 0 by decide)]
    · rw [if_neg hq, if_neg hq, if_pos rfl]
      by_cases h4 : rMx r2 l f (vf r2 l 0) 0 (vf r2 l (87 + f)) = 40
      · rw [if_pos h4, h4, if_pos (show (40 : Int32) ≤ nI 40 by decide)]
      · have hso := source_ok (M := M) (e := rMx r2 l f (vf r2 l 0) 0 (vf r2 l (87 + f))) hIM hl (by omega)
        rw [hM] at hso
        rw [if_neg h4, show (40 : Int32) = nI 40 from rfl, if_neg (nI_ge (by omega) (by omega)), hso, bind_s]
  have hstart : ∀ M, gR M 4 = rP r l 1 → m_X6_recover_L60 3 (nI l) fuel (nI f) (nI 0) M = m_X6_recover_L60 3 (nI l) (fuel - vf r l 0 - 1 + 1) (nI f) (nI (vf r l 0)) (sR 4 r2 M) := fun M hM => by
    have h := hr2 M (fuel - vf r l 0 - 1 + 1) hM
    rw [show vf r l 0 + (fuel - vf r l 0 - 1 + 1) = fuel by unfold fuel; omega, v0] at h
    exact h
  by_cases hq : rUd r2 l f (vf r2 l 0) 0 = true
  · refine ⟨-2, r2, I2, fun M hM => ?_, fun M hR => ?_, hg2⟩
    · rw [hstart M hM, hend _ _ gR_self, if_pos hq]
    · obtain ⟨N, R1, F1, e1⟩ := hc2 _ fuel (ph_R (v := 1) hR hI hl) (by unfold fuel; omega)
      refine ⟨N, R1, (Fg.rf.sF (by omega) (Or.inl (by decide))).tr F1, ?_⟩
      unfold m_X3_recoverLedger m_X3_fenceLastEnsemble
      rw [show m_X3_fenceLastEnsemble_L2 64 (64 + 27 + 5 * l) fuel 0 (sF (64 + 27 + 5 * l) 4 1 M) = some N from e1, bind_s, cud_ok (f := f) R1 I2 hl (rc_l R1 I2 hl) (by omega), bind_s, if_pos hq, if_neg (show ¬ (1 : Int32) = 0 by decide)]
  · obtain ⟨s, r', hI', hr, hcl, hy, h2, hke⟩ := rec_both (l := l) (40 - rMx r2 l f (vf r2 l 0) 0 (vf r2 l (87 + f))) (rMx r2 l f (vf r2 l 0) 0 (vf r2 l (87 + f))) r2 (by omega) I2 hl
    have hg3 : Go lc 0 r2 r' := ⟨fun hY => hy w3 (by rw [w6, ← hf, Nat.add_sub_cancel]; exact Bool.eq_false_iff.mpr hq) (by rw [w6, ← hf, Nat.add_sub_cancel]; exact rMx_ge _ _ _) (rMx_K I2 hl (by omega) hY.1 _ _ _ (by omega) (by
      have h1 := hL2.2.2.2.2.2.2.2.2.2.1
      rw [w6, ← hf, Nat.add_sub_cancel] at h1
      exact h1)) hY, fun k hk => ⟨k, h2.trans hk, by omega⟩, hke⟩
    refine ⟨nI s - 1, r', hI', fun M hM => ?_, fun M hR => ?_, hg2.tr hg3⟩
    · rw [hstart M hM, hend _ _ gR_self, if_neg hq, hr _ fuel gR_self (by unfold fuel; omega), sR_sR]
    · obtain ⟨N, R1, F1, e1⟩ := hc2 _ fuel (ph_R (v := 1) hR hI hl) (by unfold fuel; omega)
      obtain ⟨M', R2, F2, e2⟩ := hcl N fuel R1 (by unfold fuel; omega)
      refine ⟨M', R2, ((Fg.rf.sF (by omega) (Or.inl (by decide))).tr F1).tr F2, ?_⟩
      unfold m_X3_recoverLedger m_X3_fenceLastEnsemble
      rw [show m_X3_fenceLastEnsemble_L2 64 (64 + 27 + 5 * l) fuel 0 (sF (64 + 27 + 5 * l) 4 1 M) = some N from e1, bind_s, cud_ok (f := f) R1 I2 hl (rc_l R1 I2 hl) (by omega), bind_s, if_neg hq, if_pos rfl, clk_ok (f := f) R1 I2 hl (rc_l R1 I2 hl) (by omega) h40, bind_s, Int32.sub_add_cancel]
      exact e2
end REC
