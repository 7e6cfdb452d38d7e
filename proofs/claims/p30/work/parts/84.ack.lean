/-! an acknowledgement is written -/
def rA (r : Nat → Int32) (l e : Nat) (v : Int32) : Nat → Int32 := upd r (2131 + 333 * l + (47 + e)) v
section ACK
variable {M : Mem} {B a nc lc l e n : Nat} {r : Nat → Int32} {v : Int32}
theorem rA_ne {w : Nat} (h : w ≠ 47 + e) : rA r l e v (2131 + 333 * l + w) = r (2131 + 333 * l + w) := upd_n (by omega)
theorem rA_v {w : Nat} (h : w ≠ 47 + e) : vf (rA r l e v) l w = vf r l w := by
  show cl (rA r l e v _) = cl (r _)
  rw [rA_ne h]
theorem rA_s : rA r l e v (2131 + 333 * l + (47 + e)) = v := upd_s
theorem rA_o {i : Nat} (h : i ≠ 2131 + 333 * l + (47 + e)) : rA r l e v i = r i := upd_n h
theorem CL.ack (hC : CL M a r l) (hI : LI r nc l) (he : e < 40) : CL (sR (a + 2) (upd (gR M (a + 2)) e v) M) a (rA r l e v) l := by
  have h41 := hI.2.2.2.2.2.2.1.2
  have hE := hI.2.1
  obtain ⟨h0, h1, h2, h3, h4, h5, h6, h7, h8, h9, h10, h11⟩ := hC
  refine ⟨h0, by rw [gF_sR, h1, rA_ne (by omega)], by rw [gF_sR, h2, rA_ne (by omega)], by rw [gF_sR, h3, rA_ne (by omega)], by rw [gF_sR, h4, rA_ne (by omega)], by rw [gF_sR, h5, rA_ne (by omega)], by rw [gF_sR, h6, rA_ne (by omega)], by rw [gF_sR, h7, rA_ne (by omega)], fun k hk h40 => ?_, fun k hk h40 => ?_, fun f hf hf41 => ?_, fun f p hf hp hf41 hp5 => ?_⟩
  · rw [rA_v (by omega)] at hk
    rw [gR_ne (by omega), h8 k hk h40, rA_ne (by omega)]
  · rw [rA_v (by omega)] at hk
    rw [gR_self]
    by_cases hq : k = e
    · rw [hq, upd_s, rA_s]
    · rw [upd_n hq, h9 k hk h40, rA_ne (by omega)]
  · rw [rA_v (by omega)] at hf
    rw [gR_ne (by omega), h10 f hf hf41, rA_ne (by omega)]
  · rw [rA_v (by omega)] at hf hp
    rw [gR_ne (by omega), h11 f p hf hp hf41 hp5, rA_ne (by omega)]
theorem LI.ack {m : Nat} (hI : LI r nc l) (he : e < 40) (hm : m < 256) (hb : vf r l 3 = 0 → e < vf r l (87 + (vf r l 6 - 1)) → vf r l 2 ≤ pc m) : LI (rA r l e (nI m)) nc l := by
  have hv : ∀ w, w ≠ 47 + e → vf (rA r l e (nI m)) l w = vf r l w := fun w h => rA_v h
  have h0 := hv 0 (by omega)
  have h1 := hv 1 (by omega)
  have h2 := hv 2 (by omega)
  have h3 := hv 3 (by omega)
  have h4 := hv 4 (by omega)
  have h6 := hv 6 (by omega)
  have h87 := hv 87 (by omega)
  have hs : vf (rA r l e (nI m)) l (47 + e) = m := by
    show cl (rA r l e (nI m) _) = m
    rw [rA_s, cl_nI (by omega)]
  obtain ⟨a0, a1, a2, a3, a4, a5, a6, a7, a8, a9, b0, b1, b2, b3, b4, k, hk, b5⟩ := hI
  have va : ∀ f, vf (rA r l e (nI m)) l (87 + f) = vf r l (87 + f) := fun f => hv (87 + f) (by omega)
  have vm : ∀ f p, mbf (rA r l e (nI m)) l f p = mbf r l f p := fun f p => hv (128 + 5 * f + p) (by omega)
  unfold LI
  rw [h0, h1, h2, h3, h4, h6, h87, va]
  refine ⟨fun w hw hw5 => ?_, a1, a2, a3, a4, a5, a6, a7, fun f hf => ?_, a9, fun f p hf hp => ?_, fun f p q hf hp hq => ?_, fun k hk => ?_, fun k hk => ?_, fun h0 k hk => ?_, k, hk, ?_⟩
  · by_cases hq : w = 47 + e
    · rw [hq, rA_s, hs]
    · rw [rA_ne hq, hv w hq]; exact a0 w hw hw5
  · rw [va f, va (f + 1)]; exact a8 f hf
  · rw [vm f p]; exact b0 f p hf hp
  · rw [vm f p, vm f q]; exact b1 f p q hf hp hq
  · by_cases hq : k = e
    · rw [hq, hs]; exact hm
    · rw [hv (47 + k) (by omega)]; exact b2 k hk
  · rw [hv (7 + k) (by omega)]; exact b3 k hk
  · by_cases hq : k = e
    · rw [hq, hs]; exact hb h0 (by omega)
    · rw [hv (47 + k) (by omega)]; exact b4 h0 k hk
  · rw [rA_ne (by omega)]; exact b5
set_option maxRecDepth 100000 in
theorem pc_mono {m k : Nat} (hm : m < 256) (hk : k < 8) : pc m ≤ pc (m ||| 2 ^ k) := (show ∀ m < 256, ∀ k < 8, pc m ≤ pc (m ||| 2 ^ k) by decide +kernel) m hm k hk
/-- the row behind it -/
def rAck (r : Nat → Int32) (l e n : Nat) : Nat → Int32 := if vf r l 3 = 0 ∧ (wsM r l (frg r l e) e).testBit n = true then rA r l e (nI (vf r l (47 + e) ||| 2 ^ n)) else r
theorem rAck_o {i : Nat} (he : e < 40) (h : ¬ lIx l i) : rAck r l e n i = r i := by
  unfold rAck
  split
  · exact rA_o (by unfold lIx at h; omega)
  · rfl
theorem rAck_I (hI : Inv r nc lc) (hl : l < lc) (hn : n < nc) (he : e < vf r l 4) : Inv (rAck r l e n) nc lc := by
  have hL := inv_l hI hl
  have h40 := hL.2.2.2.2.2.1
  have h8 := hI.1
  unfold rAck
  split
  · have ha := hL.2.2.2.2.2.2.2.2.2.2.2.2.1 e he
    refine hI.led hl (fun i hi => rA_o (by unfold lIx at hi; omega)) (Nat.le_of_eq (rA_v (by omega)).symm) (hL.ack (by omega) (Nat.or_lt_two_pow (n := 8) ha (Nat.pow_lt_pow_right (by omega) (by omega))) (fun h0 h1 => ?_))
    exact Nat.le_trans (hL.2.2.2.2.2.2.2.2.2.2.2.2.2.2.1 h0 e h1) (pc_mono ha (by omega))
  · exact hI
theorem ack_ok (hB : B % 64 = 0) (hR : RC B r M) (hI : Inv r nc lc) (hl : l < lc) (hn : n < nc) (he : e < vf r l 4) : ∃ M', m_X0_acknowledge (B + 27 + 5 * l) (nI e) (nI n) M = some M' ∧ RC B (rAck r l e n) M' ∧ Fg B M M' := by
  have hL := inv_l hI hl
  have hC := rc_l hR hI hl
  have h40 := hL.2.2.2.2.2.1
  have h8 := hI.1
  have h4' := hI.2.1
  have h4 : gF M (B + 27 + 5 * l) 4 = nI (vf r l 3) := by rw [hC.2.2.2.2.1, hL.1 3 (by omega) (by omega)]
  have hp := hL.2.2.2.2.1
  have hb : wsM r l (frg r l e) e < 256 := orB_lt (fun i _ => Nat.lt_of_lt_of_le (ws_lt hL (frg_lt hL)) h8)
  unfold m_X0_acknowledge rAck
  rw [h4]
  by_cases h0 : vf r l 3 = 0
  · rw [h0, if_pos (show nI 0 = 0 from rfl), if_neg (nI_pos (by omega)), Ln 40, if_pos (nI_lt (by omega) (by omega)), cfrag_ok hC hL (by omega), bind_s, wsM_ok hC hL h8 (frg_lt hL) (by omega), bind_s, contains_ok hb (by omega)]
    by_cases ht : (wsM r l (frg r l e) e).testBit n = true
    · rw [if_pos ht, if_neg (show ¬ (1 : Int32) = 0 by decide), ck_ix (by omega) (by omega), ck_ix (by omega) (by omega), aI_nI (by omega), cl_nI (by omega), hC.2.2.2.2.2.2.2.2.2.1 e he (by omega), hL.1 (47 + e) (by omega) (by omega), shl1 (by omega), or_nI, if_pos ⟨rfl, ht⟩]
      refine ⟨_, rfl, RC.led hR hI hl (Fc.rf.sR (by omega)) (fun i hi => rA_o (by unfold lIx at hi; omega)) (hC.ack hL (by omega)), Fg.rf.sR (by omega)⟩
    · rw [if_neg ht, if_pos rfl, if_neg (fun q => ht q.2)]
      exact ⟨M, rfl, hR, Fg.rf⟩
  · rw [if_neg (nI_ne0 (by omega) (by omega)), if_neg (fun q => h0 q.1)]
    exact ⟨M, rfl, hR, Fg.rf⟩
theorem isw_loop {f : Nat} (hI : Inv (gR M 4) nc lc) (hl : l < lc) (hn : n < nc) (he : e < 1000) (hf : f = frg (gR M 4) l e) : ∀ (d i g : Nat), i + d = vf (gR M 4) l 1 → d < g → m_X6_isWriter_L6 3 (nI l) (nI e) (nI n) M g (if (orB (fun i => mbf (gR M 4) l f ((e + i) % vf (gR M 4) l 0)) i).testBit n then 1 else 0) (nI i) = some (if (wsM (gR M 4) l f e).testBit n then 1 else 0) := by
  have hL := inv_l hI hl
  have h8 := hI.1
  have hE := hL.2.1
  have hW := hL.2.2.1
  have hof : m_X6_of 3 (nI l) 1 M = some (nI (vf (gR M 4) l 1)) := of_o hI hl (w := 1) (by omega) (by omega)
  have hff : f < vf (gR M 4) l 6 := by rw [hf]; exact frg_lt hL
  intro d
  induction d with
  | zero =>
    intro i g h1 h2
    obtain ⟨g, rfl⟩ : ∃ k, g = k + 1 := ⟨g - 1, by omega⟩
    rw [m_X6_isWriter_L6_s, hof, bind_s, if_pos (nI_le (by omega) (by omega)), show i = vf (gR M 4) l 1 by omega]
    refine ck_t ?_
    split
    · exact Or.inr rfl
    · exact Or.inl rfl
  | succ d ih =>
    intro i g h1 h2
    obtain ⟨g, rfl⟩ : ∃ k, g = k + 1 := ⟨g - 1, by omega⟩
    have hi := ih (i + 1) g (by omega) (by omega)
    have hm := ws_lt (e := e) (i := i) hL hff
    rw [show orB (fun i => mbf (gR M 4) l f ((e + i) % vf (gR M 4) l 0)) (i + 1) = orB (fun i => mbf (gR M 4) l f ((e + i) % vf (gR M 4) l 0)) i ||| 2 ^ mbf (gR M 4) l f ((e + i) % vf (gR M 4) l 0) from rfl, Nat.testBit_or, Nat.testBit_two_pow] at hi
    rw [m_X6_isWriter_L6_s, hof, bind_s, if_neg (nI_ge (by omega) (by omega)), nI_1]
    by_cases hb : (orB (fun i => mbf (gR M 4) l f ((e + i) % vf (gR M 4) l 0)) i).testBit n = true
    · rw [if_pos hb, if_neg (show ¬ (1 : Int32) = 0 by decide)]
      rw [hb, Bool.true_or, if_pos rfl] at hi
      exact hi
    · rw [if_neg hb, if_pos (show (0 : Int32) = 0 from rfl), fragOf_o hI hl he, bind_s, ← hf, writer_o hI hl hff he (by omega), bind_s]
      simp only [Bool.not_eq_true] at hb
      rw [hb, Bool.false_or] at hi
      by_cases hq : mbf (gR M 4) l f ((e + i) % vf (gR M 4) l 0) = n
      · rw [hq, if_pos rfl]
        rw [if_pos (decide_eq_true hq)] at hi
        exact hi
      · rw [if_neg (nI_ne (by omega) (by omega) hq)]
        rw [if_neg (fun q => hq (of_decide_eq_true q))] at hi
        exact hi
theorem isw_ok (hI : Inv (gR M 4) nc lc) (hl : l < lc) (hn : n < nc) (he : e < 1000) : m_X6_isWriter 3 (nI l) (nI e) (nI n) M = some (if (wsM (gR M 4) l (frg (gR M 4) l e) e).testBit n then 1 else 0) := by
  have hL := inv_l hI hl
  have h := isw_loop hI hl hn he rfl (vf (gR M 4) l 1) 0 fuel (by omega) (by have := hL.2.2.1; have := hL.2.1; unfold fuel; omega)
  rw [show orB (fun i => mbf (gR M 4) l (frg (gR M 4) l e) ((e + i) % vf (gR M 4) l 0)) 0 = 0 from rfl, Nat.zero_testBit] at h
  exact h
end ACK
