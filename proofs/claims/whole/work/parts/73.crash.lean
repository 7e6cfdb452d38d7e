/-! crash -/
def empt (f : Nat → Int32) (n k : Nat) : Nat → Int32 := fun i => if 19 + 100 * n ≤ i ∧ i < 19 + 100 * n + k then 0 else f i
theorem empt_s {f : Nat → Int32} {n k : Nat} : upd (empt f n k) (19 + 100 * n + k) 0 = empt f n (k + 1) := by
  funext i
  by_cases hi : i = 19 + 100 * n + k
  · subst hi
    rw [upd_s]
    unfold empt
    rw [if_pos ⟨by omega, by omega⟩]
  · rw [upd_n hi]
    unfold empt
    by_cases hq : 19 + 100 * n ≤ i ∧ i < 19 + 100 * n + k
    · rw [if_pos hq, if_pos ⟨hq.1, by omega⟩]
    · rw [if_neg hq, if_neg (fun q => hq ⟨q.1, by omega⟩)]
theorem empt_0 {f : Nat → Int32} {n : Nat} : empt f n 0 = f := by
  funext i
  exact if_neg (fun q => by omega)
theorem empt_loop {M : Mem} {n : Nat} {f : Nat → Int32} (hn : n < 8) : ∀ (d k g : Nat), k + d = 100 → d < g → m_X6_empty_L12 3 (nI n) g (nI k) (sR 4 (empt f n k) M) = some (sR 4 (empt f n 100) M) := by
  intro d
  induction d with
  | zero =>
    intro k g h1 h3
    obtain ⟨g, rfl⟩ : ∃ k, g = k + 1 := ⟨g - 1, by omega⟩
    rw [m_X6_empty_L12_s, Ln 100, if_pos (nI_le (by omega) (by omega)), show k = 100 by omega]
  | succ d ih =>
    intro k g h1 h3
    obtain ⟨g, rfl⟩ : ∃ k, g = k + 1 := ⟨g - 1, by omega⟩
    rw [m_X6_empty_L12_s, Ln 100, if_neg (nI_ge (by omega) (by omega)), Ln 19, nI_mul, nI_add, nI_add, ck_ix (by omega) (by omega), aI_nI (by omega), gR_self, sR_sR, empt_s, nI_1]
    exact ih (k + 1) g (by omega) (by omega)
def rCrash (r : Nat → Int32) (n : Nat) : Nat → Int32 := upd (empt (upd r (11 + n) 0) n 100) (3 + n) 0
theorem empty_ok {M : Mem} {n : Nat} (hn : n < 8) : m_X6_empty 3 (nI n) M = some (sR 4 (empt (upd (gR M 4) (11 + n) 0) n 100) M) := by
  unfold m_X6_empty
  rw [Ln 11, nI_add, ck_ix (by omega) (by omega), aI_nI (by omega)]
  have h := empt_loop (M := M) (f := upd (gR M 4) (11 + n) 0) hn 100 0 fuel (by omega) (by unfold fuel; omega)
  rw [empt_0] at h
  exact h
theorem rCrash_ne {r : Nat → Int32} {n i : Nat} (h1 : i ≠ 3 + n) (h2 : i ≠ 11 + n) (h3 : ¬ (19 + 100 * n ≤ i ∧ i < 19 + 100 * n + 100)) : rCrash r n i = r i := by
  unfold rCrash
  rw [upd_n h1]
  unfold empt
  rw [if_neg h3, upd_n h2]
theorem rCrash_u {r : Nat → Int32} {n : Nat} : rCrash r n (3 + n) = 0 := upd_s
theorem rCrash_w {r : Nat → Int32} {n : Nat} (hn : n < 8) : rCrash r n (11 + n) = 0 := by
  unfold rCrash
  rw [upd_n (by omega)]
  unfold empt
  rw [if_neg (fun q => by omega), upd_s]
theorem crash_NI {r : Nat → Int32} {lc n : Nat} (hn : n < 8) (h : NIv r lc n) : NIv (rCrash r n) lc n := by
  obtain ⟨h0, -, h5, h6⟩ := h
  refine ⟨Or.inl rCrash_u, ⟨0, by omega, rCrash_w hn, fun _ => rfl, fun i hi => absurd hi (Nat.not_lt_zero i)⟩, fun k hk => ?_, fun l hl => ?_⟩
  · rw [rCrash_ne (by omega) (by omega) (by omega)]; exact h5 k hk
  · rw [rCrash_ne (by omega) (by omega) (by omega)]; exact h6 l hl
theorem crash_CN {M : Mem} {r : Nat → Int32} {a n : Nat} (hn : n < 8) (h : CN M a r n) : CN (sF a 3 0 (sF a 0 0 M)) a (rCrash r n) n := by
  obtain ⟨h0, ⟨m, hm, h1, h1'⟩, h2, h3, h4, h5⟩ := h
  refine ⟨by rw [gF_ne (by decide), gF_self, rCrash_u], ⟨m, hm, by rw [gF_ne (by decide), gF_ne (by decide)]; exact h1, fun l hl => by rw [rCrash_ne (by omega) (by omega) (by omega)]; exact h1' l hl⟩, ?_, ?_, fun l e hl he => ?_, fun i hi h100 => ?_⟩
  · rw [gF_ne (by decide), gF_ne (by decide), h2, rW_congr (r := r) (fun j hj => rCrash_ne (by omega) (by omega) (by omega))]
  · rw [gF_self, rCrash_w hn]
  · rw [gR_sF, gR_sF, h4 l e hl he, rCrash_ne (by omega) (by omega) (by omega)]
  · rw [rCrash_w hn] at hi
    exact absurd hi (Nat.not_lt_zero i)
theorem done_1 {G : Nat → Bool} {M : Mem} {x : Int32} (h : Top G M) : ∃ G' M', s_1 x G M = some (G', M') ∧ Top G' M' := by
  obtain ⟨nc, lc, G1, M1, hI, hR, e1, hR1, hm1, hr1, hk⟩ := begin_mut h
  have h8 := hI.1
  unfold s_1
  rcases arg_of (x := x) (n := nc) (by omega) with ⟨n, hn, rfl⟩ | hx
  · have hC := rc_n hR hI hn
    rcases up01 hI hn with hu | hu
    · refine ⟨G, sF 3 3 2 M, case_t (z := m_X6_crash 3 (nI n)) (M := M) (v := 0) (k := 2) ?_ ?_ gF_self (by decide), h.qu (Qu.rf.s3)⟩
      · unfold m_L_crash m_X5_crash
        rw [exN_ok hR hI hn, bind_s]
        show Option.bind (if gF M (67 + 3 * n) 0 = 0 then _ else _) _ = _
        rw [show gF M (67 + 3 * n) 0 = 0 from hC.1.trans hu, if_pos rfl]
        rfl
      · unfold m_X6_crash
        rw [isNode_ok hI hn, bind_s, bind_s, if_neg (show ¬ (1 : Int32) = 0 by decide), isUp_ok (by omega), bind_s, hu, if_neg (show ¬ (0 : Int32) = 1 by decide), if_pos rfl]
        unfold m_X6_crash_b27
        rw [fine2, if_pos rfl]
    · have hC1 := rc_n hR1 hI hn
      obtain ⟨M3, e3, b4, b3, b5, b1, hfin⟩ := hk (sF 3 3 0 (oL (gR M 4 (11 + n)).toInt64 (sF (67 + 3 * n) 3 0 (sF (67 + 3 * n) 0 0 M1)))) ((Qb.rf.fb ((Fb.rf.sF (by omega)).sF (by omega))).qu (Qu.rf.oL.s3)) (fun l hl => by
        show gF (sF 3 3 0 (sF (67 + 3 * n) 3 0 (sF (67 + 3 * n) 0 0 M1))) _ 0 = _
        rw [gF_sF_ne (by omega), gF_sF_ne (by omega), gF_sF_ne (by omega)]; exact hm1 l hl)
      refine ⟨G1, sR 4 (rCrash (gR M 4) n) M3, case_i (z := m_X6_crash 3 (nI n)) (M := oL (gR M 4 (11 + n)).toInt64 (sF (67 + 3 * n) 3 0 (sF (67 + 3 * n) 0 0 M1))) (v := gR M 4 (11 + n)) ?_ ?_ (b3.trans gF_self) ?_, hfin _ nc lc Q4.rf.row ?_ ?_⟩
      · unfold m_L_crash m_X5_crash
        rw [exN_ok hR hI hn, bind_s]
        show Option.bind (if gF M (67 + 3 * n) 0 = 0 then _ else _) _ = _
        rw [show gF M (67 + 3 * n) 0 = 1 from hC.1.trans hu, if_neg (show ¬ (1 : Int32) = 0 by decide), e1, bind_s]
        show some (0, G1, oL (gF M1 (67 + 3 * n) 3).toInt64 (sF (67 + 3 * n) 3 0 (sF (67 + 3 * n) 0 0 M1))) = _
        rw [show gF M1 (67 + 3 * n) 3 = gR M 4 (11 + n) from hC1.2.2.2.1]
      · have hI2 : Inv (gR (oL (gR M 4 (11 + n)).toInt64 (sF (67 + 3 * n) 3 0 (sF (67 + 3 * n) 0 0 M1))) 4) nc lc := by
          show Inv (gR M1 4) nc lc
          rw [hr1]; exact hI
        unfold m_X6_crash
        rw [isNode_ok hI2 hn, bind_s, bind_s, if_neg (show ¬ (1 : Int32) = 0 by decide), isUp_ok (by omega), bind_s]
        show (if (if gR M1 4 (3 + n) = 1 then (1 : Int32) else 0) = 0 then _ else _) = _
        rw [hr1, hu, if_pos (show (1 : Int32) = 1 from rfl), if_neg (show ¬ (1 : Int32) = 0 by decide)]
        unfold m_X6_crash_b27
        rw [fine0, if_neg ne10, e3, bind_s, Ln 11, nI_add, ck_ix (by omega) (by omega), cl_nI (by omega), b4, empty_ok (by omega), bind_s, Ln 3, nI_add, ck_ix (by omega) (by omega), aI_nI (by omega), gR_self, sR_sR, b4]
        rfl
      · show go (sR 4 _ M3) 0 = _
        rw [show go (sR 4 (rCrash (gR M 4) n) M3) = go M3 from rfl, go_of b5]
        exact go_oL
      · rw [gR_self]
        exact hI.node hn (fun i hi => by unfold nIx at hi; exact rCrash_ne (by omega) (by omega) (by omega)) (crash_NI (by omega) (inv_n hI hn))
      · rw [gR_self]
        exact RC.qu (by omega) (Qu.rf.oL.s3) (RC.node hR1 hI hn ((Fc.rf.sF (by omega)).sF (by omega)) (fun i hi => by unfold nIx at hi; exact rCrash_ne (by omega) (by omega) (by omega)) (crash_CN (by omega) hC1))
  · refine ⟨G, sF 3 3 1 M, case_t (z := m_X6_crash 3 x) (M := M) (v := 0) (k := 1) ?_ ?_ gF_self (by decide), h.qu (Qu.rf.s3)⟩
    · unfold m_L_crash m_X5_crash
      rw [exN_no hR hI hx, bind_s]
      rfl
    · unfold m_X6_crash
      rw [isNode_no hI hx, bind_s, bind_s, if_pos rfl]
      unfold m_X6_crash_b27
      rw [fine1, if_pos rfl]
