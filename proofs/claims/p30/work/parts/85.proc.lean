/-! a node processes its oldest request -/
def shfN (r : Nat → Int32) (n k : Nat) : Nat → Int32 := fun i => if 19 + 100 * n ≤ i ∧ i < 19 + 100 * n + k then r (i + 1) else r i
theorem shfN_s {r : Nat → Int32} {n k : Nat} : upd (shfN r n k) (19 + 100 * n + k) (shfN r n k (19 + 100 * n + k + 1)) = shfN r n (k + 1) := by
  funext i
  by_cases hi : i = 19 + 100 * n + k
  · subst hi
    rw [upd_s]
    unfold shfN
    rw [if_neg (by omega), if_pos ⟨by omega, by omega⟩]
  · rw [upd_n hi]
    unfold shfN
    by_cases hq : 19 + 100 * n ≤ i ∧ i < 19 + 100 * n + k
    · rw [if_pos hq, if_pos ⟨hq.1, by omega⟩]
    · rw [if_neg hq, if_neg (fun q => hq ⟨q.1, by omega⟩)]
def rTake (r : Nat → Int32) (n w : Nat) : Nat → Int32 := upd (upd (shfN r n 99) (19 + 100 * n + 99) 0) (11 + n) (nI w)
section PROC
variable {M : Mem} {B a nc lc l e n w p c : Nat} {r : Nat → Int32}
theorem rTake_ne {i : Nat} (h1 : i ≠ 11 + n) (h2 : ¬ (19 + 100 * n ≤ i ∧ i < 119 + 100 * n)) : rTake r n w i = r i := by
  unfold rTake
  rw [upd_n h1, upd_n (by omega)]
  exact if_neg (by omega)
theorem rTake_w : rTake r n w (11 + n) = nI w := upd_s
theorem rTake_q {i : Nat} (hn : n < 8) (hi : i < 99) : rTake r n w (19 + 100 * n + i) = r (19 + 100 * n + (i + 1)) := by
  unfold rTake
  rw [upd_n (by omega), upd_n (by omega)]
  exact if_pos ⟨by omega, by omega⟩
theorem take_NI (hn : n < 8) (h4 : lc ≤ 4) (hI : NIv r lc n) (hu : r (3 + n) = 1) (hw : r (11 + n) = nI (w + 1)) (h100 : w < 100) : NIv (rTake r n w) lc n := by
  obtain ⟨h0, ⟨w', hw', h1, h2, h3⟩, h5, h6⟩ := hI
  obtain rfl : w' = w + 1 := nI_inj (by omega) (by omega) (h1.symm.trans hw)
  have hm : ∀ l, l < lc → vf r l 4 ≤ vf (rTake r n w) l 4 := fun l hl => Nat.le_of_eq (by
    show cl (r _) = cl (rTake r n w _)
    rw [rTake_ne (by omega) (by omega)])
  refine ⟨by rw [rTake_ne (by omega) (by omega)]; exact h0, ⟨w, by omega, rTake_w, fun q => ?_, fun i hi => ?_⟩, fun k hk => ?_, fun l hl => ?_⟩
  · rw [rTake_ne (by omega) (by omega), hu] at q
    exact absurd q (by decide)
  · rw [rTake_q hn (by omega)]; exact (h3 (i + 1) (by omega)).mono (Nat.le_refl _) hm
  · rw [rTake_ne (by omega) (by omega)]; exact h5 k hk
  · rw [rTake_ne (by omega) (by omega)]; exact h6 l hl
theorem takeO_ok (hn : n < 8) (hC : CN M a r n) (hw : r (11 + n) = nI (w + 1)) (h100 : w < 100) : ∃ M', m_X1_takeOldest a M = some (rqc (r (19 + 100 * n)), M') ∧ CN M' a (rTake r n w) n ∧ Fc a 2 M M' ∧ ∀ B, B % 64 = 0 → a / 64 = B / 64 → (a + 2) / 64 = B / 64 → Fb B M M' := by
  obtain ⟨h0, ⟨m, hm, h1, h1'⟩, h2, h3, h4, h5⟩ := id hC
  have h3' : gF M a 3 = nI (w + 1) := h3.trans hw
  have hs : nI (w + 1) - 1 = nI w := by rw [nI_sub1 (by omega), Nat.add_sub_cancel]
  have hcI : ∀ N : Mem, cI (a + 2) 1 (a + 2) 0 (nI w) N = sR (a + 2) (va_cpy (gR N (a + 2)) (gR N (a + 2)) 1 0 w) N := fun N => by
    unfold cI
    rw [show (nI w).toNatClampNeg = w from cl_nI (by omega)]
    rfl
  have h50 := h5 0 (by rw [hw, cl_nI (by omega)]; omega) (by omega)
  unfold m_X1_takeOldest
  rw [h3', if_neg (show ¬ nI (w + 1) < 1 from nI_nlt (b := 1) (by omega) (by omega)), if_pos (show nI (w + 1) ≤ 100 from nI_le (b := 100) (by omega) (by omega)), hs, gF_self, ck_0 (by omega), ck_t (by decide), ck_t (by decide), ck_t (nI_pos (by omega)), cl_nI (by omega), cl_1, cl_0, ck_t (by omega), ck_t (by omega), hcI, h50]
  refine ⟨_, rfl, ⟨?_, ⟨m, hm, ?_, fun l hl => ?_⟩, ?_, ?_, fun l e hl he => ?_, fun i hi hi100 => ?_⟩, (Fc.rf.sF (by omega)).sR (by omega), fun B hB ha ha2 => (Fb.rf.sF ha).sR ha2⟩
  · rw [gF_sR, gF_ne (by decide), h0, rTake_ne (by omega) (by omega)]
  · rw [gF_sR, gF_ne (by decide), h1]
  · rw [rTake_ne (by omega) (by omega), h1' l hl]
  · rw [gF_sR, gF_ne (by decide), h2, rW_congr (r := r) (fun j hj => rTake_ne (by omega) (by omega))]
  · rw [gF_sR, gF_self, rTake_w]
  · rw [gR_ne (by omega), gR_sF, h4 l e hl he, rTake_ne (by omega) (by omega)]
  · rw [rTake_w, cl_nI (by omega)] at hi
    rw [gR_self, gR_sF, rTake_q hn (by omega), ← h5 (i + 1) (by rw [hw, cl_nI (by omega)]; omega) (by omega)]
    unfold va_cpy
    rw [if_pos ⟨by omega, by omega⟩]
    congr 1
    omega
def rPa (r : Nat → Int32) (n l : Nat) : Int32 := if r (2099 + 4 * n + l) = 1 then 0 else 1
def rProc (r : Nat → Int32) (n w l e p c : Nat) : Nat → Int32 := if r (2099 + 4 * n + l) = 1 then upd (rTake r n w) 2 (r 2 + 1) else rAck (rKeep (rTake r n w) n l e p c) l e n
theorem rTake_l {i : Nat} (hn : n < 8) (h : ¬ nIx n i) : rTake r n w i = r i := rTake_ne (by unfold nIx at h; omega) (by unfold nIx at h; omega)
theorem rKeep_l {i : Nat} (hl : l < 4) (he : e < 40) (h : ¬ nIx n i) : rKeep r n l e p c i = r i := upd_n (by unfold nIx at h; omega)
theorem take_I (hI : Inv r nc lc) (hn : n < nc) (hu : r (3 + n) = 1) (hw : r (11 + n) = nI (w + 1)) (h100 : w < 100) : Inv (rTake r n w) nc lc := by
  have h8 := hI.1
  exact hI.node hn (fun i hi => rTake_l (by omega) hi) (take_NI (by omega) hI.2.1 (inv_n hI hn) hu hw h100)
theorem keep_I (hI : Inv r nc lc) (hn : n < nc) (hl : l < 4) (he : e < 40) (hp : p ≤ 999) (hc : c ≤ 40) : Inv (rKeep r n l e p c) nc lc := by
  have h8 := hI.1
  exact hI.node hn (fun i hi => rKeep_l hl he hi) (keep_NI (by omega) (inv_n hI hn) hI.2.1 hl he hp hc)
theorem vf_o {r' : Nat → Int32} {k x : Nat} (h : r' (2131 + 333 * k + x) = r (2131 + 333 * k + x)) : vf r' k x = vf r k x := by
  show cl (r' _) = cl (r _)
  rw [h]
theorem proc_I (hI : Inv r nc lc) (hn : n < nc) (hu : r (3 + n) = 1) (hw : r (11 + n) = nI (w + 1)) (h100 : w < 100) (hl : l < lc) (he : e < vf r l 4) (hp : p ≤ 999) (hc : c ≤ 40) : Inv (rProc r n w l e p c) nc lc := by
  have h8 := hI.1
  have h4 := hI.2.1
  have h40 := (inv_l hI hl).2.2.2.2.2.1
  have I1 := take_I hI hn hu hw h100
  unfold rProc
  split
  · exact I1.c2
  · refine rAck_I (keep_I I1 hn (by omega) (by omega) hp hc) hl hn ?_
    have e1 : vf (rKeep (rTake r n w) n l e p c) l 4 = vf r l 4 := by
      rw [vf_o (r := rTake r n w) (rKeep_l (by omega) (by omega) (by unfold nIx; omega)), vf_o (r := r) (rTake_l (by omega) (by unfold nIx; omega))]
    omega
theorem keep_R (hB : B % 64 = 0) (hR : RC B r M) (hI : Inv r nc lc) (hn : n < nc) (hl : l < 4) (he : e < 40) (hp : p ≤ 999) (hc : c ≤ 40) : ∃ M', m_X1_keep (B + 3 + 3 * n) (nI (pz l e c p)) M = some M' ∧ RC B (rKeep r n l e p c) M' ∧ Fg B M M' := by
  have h8 := hI.1
  obtain ⟨M', e1, c1, c2, c3⟩ := keep_ok (by omega) (rc_n hR hI hn) (inv_n hI hn) hl he hp hc
  exact ⟨M', e1, RC.node hR hI hn c2 (fun i hi => rKeep_l hl he hi) c1, Fg.n (by omega) (c3 B hB (by omega) (by omega)) c2⟩
theorem proc_c (hB : B % 64 = 0) (hR : RC B r M) (hI : Inv r nc lc) (hn : n < nc) (hu : r (3 + n) = 1) (hw : r (11 + n) = nI (w + 1)) (h100 : w < 100) (hl : l < lc) (he : e < vf r l 4) (hp : p ≤ 999) (hc : c ≤ 40) (hq : r (19 + 100 * n) = nI (rq l e c p)) : ∃ M', m_X3_processOldest B (nI n) M = some (rPa r n l, M') ∧ RC B (rProc r n w l e p c) M' ∧ Fg B M M' := by
  have h8 := hI.1
  have h4 := hI.2.1
  have h40 := (inv_l hI hl).2.2.2.2.2.1
  have I1 := take_I hI hn hu hw h100
  obtain ⟨N, e1, c1, c2, c3⟩ := takeO_ok (by omega) (rc_n hR hI hn) hw h100
  have R1 : RC B (rTake r n w) N := RC.node hR hI hn c2 (fun i hi => rTake_l (by omega) hi) c1
  have F1 : Fg B M N := Fg.n (by omega) (c3 B hB (by omega) (by omega)) c2
  rw [hq, rqc_rq (by omega) (by omega) (by omega) (by omega)] at e1
  have hfe : rTake r n w (2099 + 4 * n + l) = r (2099 + 4 * n + l) := rTake_ne (by omega) (by omega)
  have h01 := (inv_n hI hn).2.2.2 l (by omega)
  unfold m_X3_processOldest rPa rProc
  rw [node_ok hR hI hn, bind_s, on_sm, e1, bind_s]
  show ∃ M', (if nI (pz l e c p) = -1 then _ else Option.bind (m_X1_isFencedFor (B + 3 + 3 * n) (m_X2_ledgerOf (nI (pz l e c p))) N) _) = _ ∧ _
  rw [if_neg (nI_m1 (pz_lt (by omega) (by omega) (by omega) (by omega))), pz_l (by omega) (by omega) (by omega) (by omega), fenced_ok c1 (by omega), bind_s, hfe]
  rcases h01 with h01 | h01
  · rw [h01, if_pos rfl, if_neg (show ¬ (0 : Int32) = 1 by decide), if_neg (show ¬ (0 : Int32) = 1 by decide)]
    have hk4 : vf (rKeep (rTake r n w) n l e p c) l 4 = vf r l 4 := by
      rw [vf_o (r := rTake r n w) (rKeep_l (by omega) (by omega) (by unfold nIx; omega)), vf_o (r := r) (rTake_l (by omega) (by unfold nIx; omega))]
    obtain ⟨N2, e2, R2, F2⟩ := keep_R hB R1 I1 hn (show l < 4 by omega) (show e < 40 by omega) hp hc
    have I2 := keep_I I1 hn (show l < 4 by omega) (show e < 40 by omega) hp hc
    obtain ⟨N3, e3, R3, F3⟩ := ack_ok hB R2 I2 hl hn (show e < vf (rKeep (rTake r n w) n l e p c) l 4 by omega)
    refine ⟨N3, ?_, R3, (F1.tr F2).tr F3⟩
    show Option.bind (m_X1_keep (B + 3 + 3 * n) (nI (pz l e c p)) N) _ = _
    rw [e2, bind_s, ledger_ok R2 I2 hl, bind_s, on_sm, pz_e (by omega) (by omega) (by omega) (by omega), e3]
    rfl
  · rw [h01, if_neg (show ¬ (1 : Int32) = 0 by decide), if_pos rfl, if_pos rfl]
    refine ⟨_, rfl, ?_, F1.sF rfl (Or.inl (by decide))⟩
    rw [show gF N B 2 + 1 = r 2 + 1 by rw [R1.2.2.1, rTake_ne (by omega) (by omega)]]
    exact RC.c2 I1 R1
theorem rq_l (hl : l < 4) : rq l e c p % 4 = l := by unfold rq; omega
theorem rq_e (hl : l < 4) (he : e < 64) : rq l e c p / 4 % 64 = e := by unfold rq; omega
theorem rq_c (hl : l < 4) (he : e < 64) (hc : c < 64) : rq l e c p / 256 % 64 = c := by unfold rq; omega
theorem rq_p (hl : l < 4) (he : e < 64) (hc : c < 64) : rq l e c p / 16384 = p := by unfold rq; omega
theorem add_m1 {x y : Int32} : x + (y - 1) + 1 = x + y := by rw [Int32.add_assoc, Int32.sub_add_cancel]
/-- what the reference stores -/
theorem store_o (hn : n < 8) (hl : l < 4) (he : e < 40) : m_X6_store 3 (nI n) (nI l) (nI e) (nI p) (nI c - 1) M = some (sR 4 (rKeep (gR M 4) n l e p c) M) := by
  rw [store_ok (by omega), nI_1, Ln 64, nI_mul, add_m1, nI_add]
  rfl
theorem proc_loop (hn : n < nc) (hI : Inv r nc lc) (hu : r (3 + n) = 1) (hw : r (11 + n) = nI (w + 1)) (h100 : w < 100) (hl : l < lc) (he : e < vf r l 4) (hp : p ≤ 999) (hc : c ≤ 40) : ∀ (d k g : Nat), k + d = 99 → d < g → m_X6_process_L15 3 (nI n) g (nI (rq l e c p)) (nI k) (sR 4 (shfN r n k) M) = some (rPa r n l, sR 4 (rProc r n w l e p c) M) := by
  have h8 := hI.1
  have h4 := hI.2.1
  have h40 := (inv_l hI hl).2.2.2.2.2.1
  intro d
  induction d with
  | zero =>
    intro k g h1 h3
    obtain ⟨g, rfl⟩ : ∃ k, g = k + 1 := ⟨g - 1, by omega⟩
    obtain rfl : k = 99 := by omega
    have I1 := take_I hI hn hu hw h100
    have hs : nI (w + 1) - 1 = nI w := by rw [nI_sub1 (by omega), Nat.add_sub_cancel]
    have hx : (19 : Int32) + 100 * nI n + 100 - 1 = nI (19 + 100 * n + 99) := by
      rw [show (19 : Int32) = nI 19 from rfl, show (100 : Int32) = nI 100 from rfl, nI_mul, nI_add, nI_add, nI_sub1 (by omega)]
      rfl
    have hsh : shfN r n 99 (11 + n) = nI (w + 1) := by
      rw [← hw]
      exact if_neg (by omega)
    have htk : upd (upd (shfN r n 99) (19 + 100 * n + 99) 0) (11 + n) (nI w) = rTake r n w := rfl
    rw [m_X6_process_L15_s, if_pos (show (100 : Int32) ≤ nI 99 + 1 by decide), hx, show (11 : Int32) = nI 11 from rfl, nI_add, ck_ix (by omega) (by omega), ck_ix (by omega) (by omega), ck_ix (by omega) (by omega), aI_nI (k := 19 + 100 * n + 99) (by omega), gR_self, sR_sR, cl_nI (k := 11 + n) (by omega), gR_self, upd_n (show 11 + n ≠ 19 + 100 * n + 99 by omega), hsh, hs, aI_nI (k := 11 + n) (by omega), gR_self (r := upd (shfN r n 99) (19 + 100 * n + 99) 0), sR_sR, htk]
    rw [show (4 : Int32) = nI 4 from rfl, show (64 : Int32) = nI 64 from rfl, show (256 : Int32) = nI 256 from rfl, show (16384 : Int32) = nI 16384 from rfl, nI_rem (a := rq l e c p) (b := 4) (by unfold rq; omega) (by omega), nI_div (a := rq l e c p) (b := 4) (by unfold rq; omega) (by omega), nI_rem (a := rq l e c p / 4) (b := 64) (by unfold rq; omega) (by omega), nI_div (a := rq l e c p) (b := 256) (by unfold rq; omega) (by omega), nI_rem (a := rq l e c p / 256) (b := 64) (by unfold rq; omega) (by omega), nI_div (a := rq l e c p) (b := 16384) (by unfold rq; omega) (by omega), rq_l (by omega), rq_e (by omega) (by omega), rq_c (by omega) (by omega) (by omega), rq_p (by omega) (by omega) (by omega)]
    rw [show (2099 : Int32) = nI 2099 from rfl, nI_mul, nI_add, nI_add, ck_ix (by omega) (by omega), cl_nI (by omega), gR_self, show rTake r n w (2099 + 4 * n + l) = r (2099 + 4 * n + l) from rTake_ne (by omega) (by omega)]
    unfold rPa rProc
    by_cases hq : r (2099 + 4 * n + l) = 1
    · rw [if_pos hq, if_pos hq, if_pos hq, show (2 : Int32) = nI 2 from rfl, ck_ix (by omega) (by omega), ck_ix (by omega) (by omega), cl_nI (by omega), aI_nI (by omega), gR_self, sR_sR, show rTake r n w 2 = r 2 from rTake_ne (by omega) (by omega)]
    · rw [if_neg hq, if_neg hq, if_neg hq, store_o (by omega) (by omega) (by omega), bind_s, gR_self, sR_sR]
      have I2 := keep_I I1 hn (show l < 4 by omega) (show e < 40 by omega) hp hc
      have hM : gR (sR 4 (rKeep (rTake r n w) n l e p c) M) 4 = rKeep (rTake r n w) n l e p c := gR_self
      have hL2 := inv_l I2 hl
      have h3v := hL2.2.2.2.2.1
      rw [show m_X6_of 3 (nI l) 3 (sR 4 (rKeep (rTake r n w) n l e p c) M) = some (nI (vf (rKeep (rTake r n w) n l e p c) l 3)) from by
        have := of_o (M := sR 4 (rKeep (rTake r n w) n l e p c) M) (by rw [hM]; exact I2) hl (w := 3) (by omega) (by omega)
        rw [hM] at this
        exact this, bind_s]
      have hw2 := isw_ok (M := sR 4 (rKeep (rTake r n w) n l e p c) M) (e := e) (by rw [hM]; exact I2) hl hn (by omega)
      rw [hM] at hw2
      have hof2 := of_o (M := sR 4 (rKeep (rTake r n w) n l e p c) M) (by rw [hM]; exact I2) hl (w := 47 + e) (by omega) (by omega)
      rw [hM] at hof2
      unfold rAck
      by_cases h0 : vf (rKeep (rTake r n w) n l e p c) l 3 = 0
      · rw [h0, if_pos (show nI 0 = 0 from rfl), hw2, bind_s]
        by_cases ht : (wsM (rKeep (rTake r n w) n l e p c) l (frg (rKeep (rTake r n w) n l e p c) l e) e).testBit n = true
        · rw [if_pos ht, if_neg (show ¬ (1 : Int32) = 0 by decide), show (47 : Int32) = nI 47 from rfl, nI_add, hof2, bind_s, shl1 (by omega), or_nI, set_ok (by omega), bind_s, hM, sR_sR, if_pos ⟨rfl, ht⟩]
          rfl
        · rw [if_neg ht, if_pos rfl, if_neg (fun q => ht q.2)]
      · rw [if_neg (nI_ne0 (by omega) (by omega)), if_neg (fun q => h0 q.1)]
  | succ d ih =>
    intro k g h1 h3
    obtain ⟨g, rfl⟩ : ∃ k, g = k + 1 := ⟨g - 1, by omega⟩
    rw [m_X6_process_L15_s, nI_1, show (100 : Int32) = nI 100 from rfl, if_neg (nI_ge (by omega) (by omega)), Ln 19, nI_mul, nI_add, nI_add, nI_1, ck_ix (by omega) (by omega), ck_ix (by omega) (by omega), cl_nI (by omega), aI_nI (by omega), gR_self, sR_sR, shfN_s]
    exact ih (k + 1) g (by omega) (by omega)
theorem proc_r (hM : gR M 4 = r) (hn : n < nc) (hI : Inv r nc lc) (hu : r (3 + n) = 1) (hw : r (11 + n) = nI (w + 1)) (h100 : w < 100) (hl : l < lc) (he : e < vf r l 4) (hp : p ≤ 999) (hc : c ≤ 40) (hq : r (19 + 100 * n) = nI (rq l e c p)) : m_X6_process 3 (nI n) M = some (rPa r n l, sR 4 (rProc r n w l e p c) M) := by
  have h8 := hI.1
  have h := proc_loop (M := M) hn hI hu hw h100 hl he hp hc 99 0 fuel (by omega) (by unfold fuel; omega)
  rw [show shfN r n 0 = gR M 4 from by rw [hM]; exact funext fun i => if_neg (by omega), sR_id] at h
  unfold m_X6_process
  rw [show (19 : Int32) = nI 19 from rfl, show (100 : Int32) = nI 100 from rfl, nI_mul, nI_add, ck_ix (by omega) (by omega), cl_nI (by omega), hM, hq]
  exact h
/-- both at once: what a node with a request does -/
theorem YQ.take (hn : n < 8) (hw : r (11 + n) = nI (w + 1)) (h100 : w < 100) (hQ : YQ r) : YQ (rTake r n w) := by
  intro n' i hn' hi hi100
  by_cases hnn : n' = n
  · subst hnn
    rw [rTake_w, cl_nI (by omega)] at hi
    rw [rTake_q hn' (by omega)]
    exact hQ n' (i + 1) hn' (by rw [hw, cl_nI (by omega)]; omega) (by omega)
  · rw [rTake_ne (by omega) (by omega)] at hi
    rw [rTake_ne (by omega) (by omega)]
    exact hQ n' i hn' hi hi100
theorem proc_Go (hI : Inv r nc lc) (hn : n < nc) (hu : r (3 + n) = 1) (hw : r (11 + n) = nI (w + 1)) (h100 : w < 100) (hl : l < lc) (he : e < vf r l 4) (hp : p ≤ 999) (hc : c ≤ 40) (hq : r (19 + 100 * n) = nI (rq l e c p)) : Go lc 1 r (rProc r n w l e p c) := by
  have h8 := hI.1
  have h4 := hI.2.1
  have h40 := (inv_l hI hl).2.2.2.2.2.1
  have I1 := take_I hI hn hu hw h100
  have hT : Go lc 0 r (rTake r n w) := Go.sl hI (fun i hi => rTake_ne (by omega) (by omega)) (YQ.take (by omega) hw h100) (rTake_ne (by omega) (by omega)) (fun m hm => rTake_ne (by omega) (by omega))
  have h2 : rTake r n w 2 = r 2 := rTake_ne (by omega) (by omega)
  unfold rProc
  by_cases hf : r (2099 + 4 * n + l) = 1
  · rw [if_pos hf]
    have hne : ∀ i, i ≠ 2 → upd (rTake r n w) 2 (r 2 + 1) i = rTake r n w i := fun i hi => upd_n hi
    have hG : Go lc 1 (rTake r n w) (upd (rTake r n w) 2 (r 2 + 1)) := ⟨fun hY => Y.sl I1 (fun i hi => hne i (by omega)) (fun hQ n' i hn' hi hi100 => by
      rw [hne _ (by omega)] at hi
      rw [hne _ (by omega)]
      exact hQ n' i hn' hi hi100) hY, fun k hk => ⟨k + 1, by rw [upd_s, ← h2, hk, nI_1], Nat.le_refl _⟩, Ke.of h4 (fun m hm => hne _ (by omega)) (fun k hk => hne _ (by omega))⟩
    exact (hT.tr hG).le (by omega)
  · rw [if_neg hf]
    have hvo : vf (rTake r n w) l 4 = vf r l 4 := vf_o (rTake_ne (by omega) (by omega))
    have I2 := keep_I (p := p) (c := c) (l := l) (e := e) I1 hn (by omega) (by omega) hp hc
    have hvk : vf (rKeep (rTake r n w) n l e p c) l 4 = vf r l 4 := (vf_o (upd_n (by omega))).trans hvo
    refine ⟨fun hY => ?_, fun k hk => ⟨k, ?_, by omega⟩, hT.2.2.tr (Ke.of h4 (fun m hm => (rAck_x (by omega)).trans (upd_n (by omega))) (fun k hk => (rAck_x (by omega)).trans (upd_n (by omega))))⟩
    · have hce : c ≤ e := by
        have h := hY.2.1 n 0 (by omega) (by rw [hw, cl_nI (by omega)]; omega) (by omega)
        rw [Nat.add_zero, hq, cl_nI (by unfold rq; omega), rq_c (by omega) (by omega) (by omega), rq_e (by omega) (by omega)] at h
        exact h
      obtain ⟨Y1, f1⟩ := hT.1 hY
      obtain ⟨Y2, f2⟩ := Y.keep (p := p) I1 (show n < 8 by omega) (show l < 4 by omega) (by rw [hvo]; exact he) (by omega) hp hce Y1
      obtain ⟨Y3, f3⟩ := Y.ack (n := n) I2 hl hn (by rw [hvk]; exact he) (by
        show upd _ _ _ _ ≠ 0
        rw [upd_s]; exact nI_ne0 (by omega) (by omega)) Y2
      exact ⟨Y3, fun k hk => Nat.le_trans (f1 k hk) (Nat.le_trans (f2 k hk) (f3 k hk))⟩
    · rw [rAck_o (by omega) (by unfold lIx; omega)]
      exact (upd_n (by omega)).trans (h2.trans hk)
theorem proc_both (hI : Inv r nc lc) (hn : n < nc) (hu : r (3 + n) = 1) (hw : r (11 + n) = nI (w + 1)) (h100 : w < 100) : ∃ v r', (v = 0 ∨ v = 1) ∧ Inv r' nc lc ∧ r' (11 + n) = nI w ∧ (∀ k, k < 8 → k ≠ n → r' (11 + k) = r (11 + k)) ∧ (∀ k, k < 8 → r' (3 + k) = r (3 + k)) ∧
    (∀ M, gR M 4 = r → m_X6_process 3 (nI n) M = some (v, sR 4 r' M)) ∧ (∀ B M, B % 64 = 0 → RC B r M → ∃ M', m_X3_processOldest B (nI n) M = some (v, M') ∧ RC B r' M' ∧ Fg B M M') ∧ Go lc 1 r r' := by
  have h8 := hI.1
  have h4 := hI.2.1
  obtain ⟨-, ⟨w', hw', k1, -, k3⟩, -⟩ := inv_n hI hn
  obtain rfl : w' = w + 1 := nI_inj (by omega) (by omega) (k1.symm.trans hw)
  obtain ⟨l, e, c, p, hl, he, hc, hp, hq⟩ := k3 0 (by omega)
  have h40 := (inv_l hI hl).2.2.2.2.2.1
  have ho : ∀ i, 3 ≤ i → i < 19 → rProc r n w l e p c i = rTake r n w i := fun i h1 h2 => by
    unfold rProc
    split
    · exact upd_n (by omega)
    · rw [rAck_o (by omega) (by unfold lIx; omega)]
      exact upd_n (by omega)
  refine ⟨rPa r n l, rProc r n w l e p c, ?_, proc_I hI hn hu hw h100 hl he hp hc, ?_, fun k hk hkn => ?_, fun k hk => ?_, fun M hM => proc_r hM hn hI hu hw h100 hl he hp hc hq, fun B M hB hR => proc_c hB hR hI hn hu hw h100 hl he hp hc hq, proc_Go hI hn hu hw h100 hl he hp hc hq⟩
  · unfold rPa
    split
    · exact Or.inl rfl
    · exact Or.inr rfl
  · rw [ho _ (by omega) (by omega)]; exact rTake_w
  · rw [ho _ (by omega) (by omega)]; exact rTake_ne (by omega) (by omega)
  · rw [ho _ (by omega) (by omega)]; exact rTake_ne (by omega) (by omega)
end PROC
