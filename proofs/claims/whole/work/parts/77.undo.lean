/-! undo -/
def cpy4 (p s : Nat → Int32) (k : Nat) : Nat → Int32 := fun i => if i < k then p i else s i
theorem cpy4_s {p s : Nat → Int32} {k : Nat} : upd (cpy4 p s k) k (p k) = cpy4 p s (k + 1) := by
  funext i
  by_cases hi : i = k
  · subst hi
    rw [upd_s]
    unfold cpy4
    rw [if_pos (by omega)]
  · rw [upd_n hi]
    unfold cpy4
    by_cases hq : i < k
    · rw [if_pos hq, if_pos (by omega)]
    · rw [if_neg hq, if_neg (by omega)]
theorem undo_loop {M : Mem} {n : Nat} (hn : n < 4) (h2 : gF M 3 2 = nI n) : ∀ (d k g : Nat), k + d = 3463 → d < g → m_X6_undo_L37 3 g (nI k) (sR 4 (cpy4 (pr M n) (gR M 4) k) M) = some (nI n, sR 4 (cpy4 (pr M n) (gR M 4) 3463) M) := by
  intro d
  induction d with
  | zero =>
    intro k g h1 h3
    obtain ⟨g, rfl⟩ : ∃ k, g = k + 1 := ⟨g - 1, by omega⟩
    rw [m_X6_undo_L37_s, Ln 3463, if_pos (nI_le (by omega) (by omega)), gF_sR, h2, show k = 3463 by omega]
  | succ d ih =>
    intro k g h1 h3
    obtain ⟨g, rfl⟩ : ∃ k, g = k + 1 := ⟨g - 1, by omega⟩
    rw [m_X6_undo_L37_s, Ln 3463, if_neg (nI_ge (by omega) (by omega)), gF_sR, h2, nI_mul, nI_add, ck_ix (by omega) (by omega), ck_ix (by omega) (by omega), cl_nI (by omega), aI_nI (by omega), gR_self, gR_ne (c := 4) (c' := 5) (by decide), sR_sR, show gR M 5 (3463 * n + k) = pr M n k from rfl, cpy4_s, nI_1]
    exact ih (k + 1) g (by omega) (by omega)
theorem done_25 {G : Nat → Bool} {M : Mem} (h : Top G M) : ∃ G' M', s_25 G M = some (G', M') ∧ Top G' M' := by
  obtain ⟨⟨nc, lc, hI, hR⟩, hN, n, nx, hn, hx, h0, h1, h5, hp⟩ := id h
  unfold s_25
  by_cases hz : n = 0
  · refine ⟨G, sF 3 3 1 M, case_t (z := m_X6_undo 3) (M := M) (v := 0) (k := 1) ?_ ?_ gF_self (by decide), h.qu (Qu.rf.s3)⟩
    · unfold m_L_undo m_X5_undo
      rw [h0, hz, if_neg (by decide), bind_s]
      rfl
    · unfold m_X6_undo
      rw [h5, hz, if_pos (show nI 0 = 0 from rfl)]
      unfold m_X6_undo_b13
      rw [gF_self, if_neg (by decide)]
  · obtain ⟨k1, nc', lc', k2, k3⟩ := hp (n - 1) (by omega)
    have hs : (nx + 4 - n + (n - 1)) % 4 = (nx + 3) % 4 := by omega
    rw [hs] at k1 k3
    have hlat : (nx + 3) % 4 < 4 := Nat.mod_lt _ (by omega)
    generalize hlt : (nx + 3) % 4 = lat at k1 k3 hlat
    obtain ⟨N, e1, c1, c2, c3⟩ := take_ok (a := 64) (b := 128 + 64 * lat) k2 (by omega) (by omega) (by omega) k3 (fun l hl => (hN l hl).1)
    have hrem : nI nx + 4 - 1 - (nI nx + 4 - 1) / 4 * 4 = nI lat := by
      rw [show nI nx + 4 - 1 = nI (nx + 3) from by rw [show (4 : Int32) = nI 4 from rfl, nI_add, nI_sub1 (by omega)]; rfl]
      rw [← hlt]
      exact nI_rem (b := 4) (by omega) (by omega)
    have g1 : gF N 1 = gF M 1 := (c3.1 1 (by omega)).1
    have hpop : m_X4_popInto 1 64 G M = some (sF 1 0 (nI (n - 1)) (sF 1 1 (nI lat) N)) := by
      unfold m_X4_popInto
      rw [h0, if_neg (show ¬ nI n < 1 from nI_nlt (b := 1) (by omega) (by omega)), h1, hrem, if_neg (nI_pos (by omega)), if_pos (show nI lat < 4 from nI_lt (b := 4) hlat (by omega)), ck_ix hlat (by omega), cl_nI (by omega), show rg G lat = some (128 + 64 * lat) from if_pos k1, on_sm, e1, bind_s]
      unfold m_X4_popInto_b49
      rw [gF_ne (by decide), g1, h0, nI_sub1 (by omega)]
    have hv : gF (sF 1 0 (nI (n - 1)) (sF 1 1 (nI lat) N)) 1 0 = nI (n - 1) := gF_self
    have h32 : gF (oL (nI (n - 1)).toInt64 (sF 1 0 (nI (n - 1)) (sF 1 1 (nI lat) N))) 3 2 = nI n := by
      show gF (sF 1 0 (nI (n - 1)) (sF 1 1 (nI lat) N)) 3 2 = _
      rw [gF_sF_ne (by omega), gF_sF_ne (by omega), (c3.1 3 (by omega)).1, h5]
    have hpr : pr (sF 3 2 (nI (n - 1)) (sF 3 3 0 (oL (nI (n - 1)).toInt64 (sF 1 0 (nI (n - 1)) (sF 1 1 (nI lat) N))))) (n - 1) = pr M (n - 1) := by
      funext k
      show gR N 5 _ = gR M 5 _
      rw [(c3.1 5 (by omega)).2]
    have hl := undo_loop (M := sF 3 2 (nI (n - 1)) (sF 3 3 0 (oL (nI (n - 1)).toInt64 (sF 1 0 (nI (n - 1)) (sF 1 1 (nI lat) N))))) (n := n - 1) (by omega) gF_self 3463 0 fuel (by omega) (by unfold fuel; omega)
    rw [show cpy4 (pr (sF 3 2 (nI (n - 1)) (sF 3 3 0 (oL (nI (n - 1)).toInt64 (sF 1 0 (nI (n - 1)) (sF 1 1 (nI lat) N))))) (n - 1)) (gR (sF 3 2 (nI (n - 1)) (sF 3 3 0 (oL (nI (n - 1)).toInt64 (sF 1 0 (nI (n - 1)) (sF 1 1 (nI lat) N))))) 4) 0 = gR (sF 3 2 (nI (n - 1)) (sF 3 3 0 (oL (nI (n - 1)).toInt64 (sF 1 0 (nI (n - 1)) (sF 1 1 (nI lat) N))))) 4 from funext fun i => if_neg (by omega), sR_id, hpr] at hl
    generalize hrow : cpy4 (pr M (n - 1)) (gR (sF 3 2 (nI (n - 1)) (sF 3 3 0 (oL (nI (n - 1)).toInt64 (sF 1 0 (nI (n - 1)) (sF 1 1 (nI lat) N))))) 4) 3463 = row at hl
    have hrw : ∀ i, i < 3463 → row i = pr M (n - 1) i := fun i hi => by rw [← hrow]; exact if_pos hi
    have hfar : ∀ c, 64 ≤ c → gF (sR 4 row (sF 3 2 (nI (n - 1)) (sF 3 3 0 (oL (nI (n - 1)).toInt64 (sF 1 0 (nI (n - 1)) (sF 1 1 (nI lat) N)))))) c = gF N c ∧ gR (sR 4 row (sF 3 2 (nI (n - 1)) (sF 3 3 0 (oL (nI (n - 1)).toInt64 (sF 1 0 (nI (n - 1)) (sF 1 1 (nI lat) N)))))) c = gR N c := fun c hc =>
      ⟨(gF_sF_ne (M := sF 3 3 0 (sF 1 0 (nI (n - 1)) (sF 1 1 (nI lat) N))) (by omega)).trans ((gF_sF_ne (by omega)).trans ((gF_sF_ne (by omega)).trans (gF_sF_ne (by omega)))), gR_ne (by omega)⟩
    refine ⟨G, sR 4 row (sF 3 2 (nI (n - 1)) (sF 3 3 0 (oL (nI (n - 1)).toInt64 (sF 1 0 (nI (n - 1)) (sF 1 1 (nI lat) N))))), case_i (z := m_X6_undo 3) (M := oL (nI (n - 1)).toInt64 (sF 1 0 (nI (n - 1)) (sF 1 1 (nI lat) N))) (v := nI (n - 1)) ?_ ?_ ?_ go_oL, ⟨⟨nc', lc', ?_, ?_⟩, fun l hl => ⟨?_, fun i hi hG => ?_⟩, n - 1, lat, by omega, hlat, ?_, ?_, gF_sR.trans gF_self, fun j hj => ?_⟩⟩
    · unfold m_L_undo m_X5_undo
      rw [h0, if_pos (show (1 : Int32) ≤ nI n from nI_le (a := 1) (by omega) (by omega)), hpop, bind_s, hv, bind_s]
      rfl
    · unfold m_X6_undo
      rw [h32, if_neg (nI_ne0 (by omega) (by omega))]
      unfold m_X6_undo_b13
      rw [gF_self, if_pos (by decide), gF_ne (by decide), h32, nI_sub1 (by omega)]
      exact hl
    · rw [gF_sR, gF_ne (by decide), gF_self]
    · rw [gR_self]; exact k2.ext hrw
    · rw [gR_self]
      exact RC.ext k2 hrw (fun c h1 h2 => hfar c (by omega)) c1
    · rw [(hfar _ (by omega)).1]; exact c2 l hl
    · rw [(hfar _ (by omega)).1, (c3.1 _ (by omega)).1]; exact (hN l hl).2 i hi hG
    · show gF (sF 3 2 (nI (n - 1)) (sF 3 3 0 (sF 1 0 (nI (n - 1)) (sF 1 1 (nI lat) N)))) 1 0 = _
      rw [gF_sF_ne (by omega), gF_sF_ne (by omega), gF_self]
    · show gF (sF 3 2 (nI (n - 1)) (sF 3 3 0 (sF 1 0 (nI (n - 1)) (sF 1 1 (nI lat) N)))) 1 1 = _
      rw [gF_sF_ne (by omega), gF_sF_ne (by omega), gF_ne (by decide), gF_self]
    · obtain ⟨g1', nc2, lc2, g2, g3⟩ := hp j (by omega)
      have hsl : (lat + 4 - (n - 1) + j) % 4 = (nx + 4 - n + j) % 4 := by omega
      have e : pr (sR 4 row (sF 3 2 (nI (n - 1)) (sF 3 3 0 (oL (nI (n - 1)).toInt64 (sF 1 0 (nI (n - 1)) (sF 1 1 (nI lat) N)))))) j = pr M j := by
        funext k
        show gR (sR 4 row N) 5 _ = gR M 5 _
        rw [gR_ne (by decide), (c3.1 5 (by omega)).2]
      rw [hsl]
      exact ⟨g1', nc2, lc2, by rw [e]; exact g2, by
        rw [e]
        exact RC.ext g2 (fun _ _ => rfl) (fun c h1 h2 => ⟨(hfar c (by omega)).1.trans (c3.1 c (by omega)).1, (hfar c (by omega)).2.trans (c3.1 c (by omega)).2⟩) g3⟩
