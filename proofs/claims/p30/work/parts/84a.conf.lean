/-! what is confirmed stays confirmed: more of the row -/
/-- what is stored is of an entry that was appended, with a confirmed one before it -/
def YS (r : Nat → Int32) : Prop := ∀ n l e, n < 8 → l < 4 → e < 40 → r (819 + 160 * n + 40 * l + e) ≠ 0 → e < vf r l 4 ∧ cl (r (819 + 160 * n + 40 * l + e)) % 64 ≤ e
/-- so is what waits -/
def YQ (r : Nat → Int32) : Prop := ∀ n i, n < 8 → i < cl (r (11 + n)) → i < 100 → cl (r (19 + 100 * n + i)) / 256 % 64 ≤ cl (r (19 + 100 * n + i)) / 4 % 64
/-- who has acknowledged an entry stores it and is of its write set -/
def YK (r : Nat → Int32) (l : Nat) : Prop := ∀ e n, e < vf r l 4 → n < 8 → (vf r l (47 + e)).testBit n = true → r (819 + 160 * n + 40 * l + e) ≠ 0 ∧ (wsM r l (frg r l e) e).testBit n = true
/-- what lies before the last fragment is confirmed -/
def YC (r : Nat → Int32) (l : Nat) : Prop := ∀ e, e < vf r l (87 + (vf r l 6 - 1)) → vf r l 2 ≤ pc (vf r l (47 + e))
/-- a closed ledger's last entry is no less than what was confirmed -/
def YD (r : Nat → Int32) (l : Nat) : Prop := ∃ k, r (2131 + 333 * l + 5) = nI k - 1 ∧ rCf r l ≤ k ∧ k ≤ vf r l 4
def YL (r : Nat → Int32) (l : Nat) : Prop := (vf r l 3 ≠ 2 → YK r l ∧ YC r l) ∧ (vf r l 3 = 2 → YD r l)
def Y (r : Nat → Int32) (lc : Nat) : Prop := YS r ∧ YQ r ∧ ∀ l, l < lc → YL r l
/-- how many entries are confirmed, or closed in -/
def fl (r : Nat → Int32) (l : Nat) : Nat := if vf r l 3 = 2 then cl (r (2131 + 333 * l + 5) + 1) else rCf r l
/-- who is up, and the ledgers' sizes, stay -/
def Ke (lc : Nat) (r r' : Nat → Int32) : Prop := (∀ n, n < 8 → r' (3 + n) = r (3 + n)) ∧ ∀ l, l < lc → vf r' l 0 = vf r l 0
/-- a way from row to row on which that never falls, with at most B rejections -/
def Go (lc B : Nat) (r r' : Nat → Int32) : Prop := (Y r lc → Y r' lc ∧ ∀ l, l < lc → fl r l ≤ fl r' l) ∧ (∀ k, r 2 = nI k → ∃ j, r' 2 = nI j ∧ j ≤ k + B) ∧ Ke lc r r'
theorem Ke.rf {lc : Nat} {r : Nat → Int32} : Ke lc r r := ⟨fun _ _ => rfl, fun _ _ => rfl⟩
theorem Ke.tr {lc : Nat} {r r1 r2 : Nat → Int32} (h : Ke lc r r1) (k : Ke lc r1 r2) : Ke lc r r2 := ⟨fun n hn => (k.1 n hn).trans (h.1 n hn), fun l hl => (k.2 l hl).trans (h.2 l hl)⟩
theorem Ke.of {lc : Nat} {r r1 : Nat → Int32} (h4 : lc ≤ 4) (hu : ∀ n, n < 8 → r1 (3 + n) = r (3 + n)) (hl : ∀ l, l < 4 → r1 (2131 + 333 * l + 0) = r (2131 + 333 * l + 0)) : Ke lc r r1 := ⟨hu, fun l hl' => by
  show cl (r1 _) = cl (r _)
  rw [hl l (by omega)]⟩
theorem Go.rf {lc B : Nat} {r : Nat → Int32} : Go lc B r r := ⟨fun h => ⟨h, fun _ _ => Nat.le_refl _⟩, fun k h => ⟨k, h, by omega⟩, Ke.rf⟩
theorem Go.tr {lc B C : Nat} {r r1 r2 : Nat → Int32} (h : Go lc B r r1) (k : Go lc C r1 r2) : Go lc (B + C) r r2 := by
  refine ⟨fun hY => ?_, fun n hn => ?_, h.2.2.tr k.2.2⟩
  · obtain ⟨a, b⟩ := h.1 hY
    obtain ⟨a', b'⟩ := k.1 a
    exact ⟨a', fun l hl => Nat.le_trans (b l hl) (b' l hl)⟩
  · obtain ⟨i, hi, hi2⟩ := h.2.1 n hn
    obtain ⟨j, hj, hj2⟩ := k.2.1 i hi
    exact ⟨j, hj, by omega⟩
theorem Go.le {lc B C : Nat} {r r1 : Nat → Int32} (h : Go lc B r r1) (hb : B ≤ C) : Go lc C r r1 := ⟨h.1, fun n hn => by
  obtain ⟨j, hj, hj2⟩ := h.2.1 n hn
  exact ⟨j, hj, by omega⟩, h.2.2⟩
theorem vfo {r r' : Nat → Int32} {k x : Nat} (h : r' (2131 + 333 * k + x) = r (2131 + 333 * k + x)) : vf r' k x = vf r k x := by
  show cl (r' _) = cl (r _)
  rw [h]
theorem rFr_congr {st st' : Nat → Nat} {e : Nat} : ∀ k, (∀ f, f < k → st' f = st f) → rFr st' e k = rFr st e k := by
  intro k
  induction k with
  | zero => intro _; rfl
  | succ k ih =>
    intro h
    unfold rFr
    rw [h k (by omega), ih (fun f hf => h f (by omega))]
theorem lead_congr {q q' : Nat → Bool} : ∀ (n e : Nat), (∀ k, e ≤ k → k < e + n → q' k = q k) → lead q' n e = lead q n e := by
  intro n
  induction n with
  | zero => intro e _; rfl
  | succ n ih =>
    intro e h
    unfold lead
    rw [h e (by omega) (by omega), ih (e + 1) (fun k h1 h2 => h k (by omega) (by omega))]
theorem lead_mono {q q' : Nat → Bool} : ∀ (n e : Nat), (∀ k, e ≤ k → k < e + n → q k = true → q' k = true) → lead q n e ≤ lead q' n e := by
  intro n
  induction n with
  | zero => intro e _; exact Nat.le_refl _
  | succ n ih =>
    intro e h
    unfold lead
    by_cases hq : q e = true
    · rw [if_pos hq, if_pos (h e (by omega) (by omega) hq)]
      exact ih (e + 1) (fun k h1 h2 => h k (by omega) (by omega))
    · rw [if_neg hq]
      split
      · have := (lead_le (q := q') n (e + 1)).1
        omega
      · exact Nat.le_refl _
/-- a ledger's cells but its phase, its last entry and its acknowledgements are the same -/
def Lz (r r' : Nat → Int32) (l : Nat) : Prop := ∀ w, w < 333 → (w < 47 ∨ 87 ≤ w) ∧ w ≠ 3 ∧ w ≠ 5 → r' (2131 + 333 * l + w) = r (2131 + 333 * l + w)
def Lw (r r' : Nat → Int32) (l : Nat) : Prop := ∀ w, w < 333 → r' (2131 + 333 * l + w) = r (2131 + 333 * l + w)
section LZ
variable {r r' : Nat → Int32} {nc lc l e f w : Nat}
theorem Lw.z (h : Lw r r' l) : Lz r r' l := fun w hw _ => h w hw
theorem Lw.v (h : Lw r r' l) (hw : w < 333) : vf r' l w = vf r l w := vfo (h w hw)
theorem Lz.v (h : Lz r r' l) (hw : w < 333) (hw2 : (w < 47 ∨ 87 ≤ w) ∧ w ≠ 3 ∧ w ≠ 5) : vf r' l w = vf r l w := vfo (h w hw hw2)
theorem rCf_of {r r' : Nat → Int32} {l : Nat} (h2 : vf r' l 2 = vf r l 2) (h4 : vf r' l 4 = vf r l 4) (hk : ∀ k, k < vf r l 4 → vf r' l (47 + k) = vf r l (47 + k)) : rCf r' l = rCf r l := by
  unfold rCf
  rw [h4]
  refine lead_congr _ 0 (fun k _ hk2 => ?_)
  rw [h2, hk k (by omega)]
theorem Lz.fr (hL : LI r nc l) (h : Lz r r' l) : frg r' l e = frg r l e := by
  have h41 := hL.2.2.2.2.2.2.1.2
  show rFr _ e (vf r' l 6) = rFr _ e (vf r l 6)
  rw [h.v (by omega) (by omega)]
  exact rFr_congr _ (fun f hf => h.v (by omega) (by omega))
theorem Lz.ws (hL : LI r nc l) (h : Lz r r' l) (hf : f < vf r l 6) : wsM r' l f e = wsM r l f e := by
  have h41 := hL.2.2.2.2.2.2.1.2
  have hE := hL.2.1
  show orB (fun i => mbf r' l f ((e + i) % vf r' l 0)) (vf r' l 1) = orB (fun i => mbf r l f ((e + i) % vf r l 0)) (vf r l 1)
  rw [h.v (w := 0) (by omega) (by omega), h.v (w := 1) (by omega) (by omega)]
  refine orB_congr (fun i _ => ?_)
  have := Nat.mod_lt (e + i) (show 0 < vf r l 0 by omega)
  exact h.v (by omega) (by omega)
theorem Lw.c (hL : LI r nc l) (h : Lw r r' l) : rCf r' l = rCf r l := by
  have h40 := hL.2.2.2.2.2.1
  unfold rCf
  rw [h.v (w := 4) (by omega)]
  refine lead_congr _ 0 (fun k _ hk => ?_)
  rw [h.v (w := 2) (by omega), h.v (w := 47 + k) (by omega)]
theorem YK.of (hL : LI r nc l) (h : Lz r r' l) (hk : ∀ e n, e < vf r l 4 → n < 8 → (vf r' l (47 + e)).testBit n = true → r' (819 + 160 * n + 40 * l + e) ≠ 0 ∧ (wsM r l (frg r l e) e).testBit n = true) : YK r' l := fun e n he hn hb => by
  rw [h.v (w := 4) (by omega) (by omega)] at he
  rw [h.fr hL, h.ws hL (frg_lt hL)]
  exact hk e n he hn hb
theorem YL.congr (hL : LI r nc l) (h : Lw r r' l) (hs : ∀ n e, n < 8 → e < 40 → r (819 + 160 * n + 40 * l + e) ≠ 0 → r' (819 + 160 * n + 40 * l + e) ≠ 0) (hY : YL r l) : YL r' l ∧ fl r l ≤ fl r' l := by
  have h40 := hL.2.2.2.2.2.1
  have hF := hL.2.2.2.2.2.2.1
  have h3 := h.v (w := 3) (by omega)
  refine ⟨⟨fun hp => ?_, fun hp => ?_⟩, ?_⟩
  · rw [h3] at hp
    obtain ⟨hk, hc⟩ := hY.1 hp
    refine ⟨YK.of hL h.z (fun e n he hn hb => ?_), fun e he => ?_⟩
    · rw [h.v (by omega)] at hb
      obtain ⟨a, b⟩ := hk e n he hn hb
      exact ⟨hs n e hn (by omega) a, b⟩
    · have hst := hL.2.2.2.2.2.2.2.2.2.1
      rw [h.v (w := 6) (by omega), h.v (w := 87 + (vf r l 6 - 1)) (by omega)] at he
      rw [h.v (w := 2) (by omega), h.v (w := 47 + e) (by omega)]
      exact hc e he
  · rw [h3] at hp
    obtain ⟨k, a, b, d⟩ := hY.2 hp
    exact ⟨k, by rw [h 5 (by omega)]; exact a, by rw [h.c hL]; exact b, by rw [h.v (by omega)]; exact d⟩
  · unfold fl
    rw [h3, h 5 (by omega), h.c hL]
    exact Nat.le_refl _
/-- where neither what is stored nor a ledger changes -/
theorem Y.sl (hI : Inv r nc lc) (h : ∀ i, (819 ≤ i ∧ i < 2099) ∨ 2131 ≤ i → r' i = r i) (hq : YQ r → YQ r') (hY : Y r lc) : Y r' lc ∧ ∀ l, l < lc → fl r l ≤ fl r' l := by
  have h4 := hI.2.1
  have key : ∀ l, l < lc → YL r' l ∧ fl r l ≤ fl r' l := fun l hl => YL.congr (inv_l hI hl) (fun w _ => h _ (Or.inr (by omega))) (fun n e hn he q => by rw [h _ (Or.inl ⟨by omega, by omega⟩)]; exact q) (hY.2.2 l hl)
  refine ⟨⟨fun n l e hn hl he hs => ?_, hq hY.2.1, fun l hl => (key l hl).1⟩, fun l hl => (key l hl).2⟩
  rw [h _ (Or.inl ⟨by omega, by omega⟩)] at hs ⊢
  rw [vfo (h _ (Or.inr (by omega)))]
  exact hY.1 n l e hn hl he hs
theorem Go.sl (hI : Inv r nc lc) (h : ∀ i, (819 ≤ i ∧ i < 2099) ∨ 2131 ≤ i → r' i = r i) (hq : YQ r → YQ r') (h2 : r' 2 = r 2) (hu : ∀ n, n < 8 → r' (3 + n) = r (3 + n)) : Go lc 0 r r' := ⟨fun hY => Y.sl hI h hq hY, fun k hk => ⟨k, h2.trans hk, by omega⟩, Ke.of hI.2.1 hu (fun l _ => h _ (Or.inr (by omega)))⟩
/-- an entry is stored -/
theorem Y.keep {n p c : Nat} (hI : Inv r nc lc) (hn : n < 8) (hl : l < 4) (he : e < vf r l 4) (he40 : e < 40) (hp : p ≤ 999) (hc : c ≤ e) (hY : Y r lc) : Y (rKeep r n l e p c) lc ∧ ∀ k, k < lc → fl r k ≤ fl (rKeep r n l e p c) k := by
  have h4 := hI.2.1
  have hne : ∀ i, i ≠ 819 + 160 * n + 40 * l + e → rKeep r n l e p c i = r i := fun i hi => upd_n hi
  have hv : rKeep r n l e p c (819 + 160 * n + 40 * l + e) = nI (64 * (p + 1) + c) := upd_s
  have key : ∀ k, k < lc → YL (rKeep r n l e p c) k ∧ fl r k ≤ fl (rKeep r n l e p c) k := fun k hk => YL.congr (inv_l hI hk) (fun w _ => hne _ (by omega)) (fun n' e' hn' he' q => by
    by_cases hx : 819 + 160 * n' + 40 * k + e' = 819 + 160 * n + 40 * l + e
    · rw [hx, hv]; exact nI_ne0 (by omega) (by omega)
    · rw [hne _ hx]; exact q) (hY.2.2 k hk)
  refine ⟨⟨fun n' l' e' hn' hl' he' hs => ?_, fun n' i hn' hi h100 => ?_, fun k hk => (key k hk).1⟩, fun k hk => (key k hk).2⟩
  · rw [vfo (hne _ (by omega))]
    by_cases hx : 819 + 160 * n' + 40 * l' + e' = 819 + 160 * n + 40 * l + e
    · have e1 : l' = l := by omega
      have e2 : e' = e := by omega
      subst e1 e2
      rw [hx, hv, cl_nI (by omega)]
      exact ⟨he, by omega⟩
    · rw [hne _ hx] at hs ⊢
      exact hY.1 n' l' e' hn' hl' he' hs
  · rw [hne _ (by omega)] at hi
    rw [hne _ (by omega)]
    exact hY.2.1 n' i hn' hi h100
theorem Go.keep {n p c : Nat} (hI : Inv r nc lc) (hn : n < 8) (hl : l < 4) (he40 : e < 40) (hp : p ≤ 999) (hh : Y r lc → e < vf r l 4 ∧ c ≤ e) : Go lc 0 r (rKeep r n l e p c) := ⟨fun hY => Y.keep hI hn hl (hh hY).1 he40 hp (hh hY).2 hY, fun k hk => ⟨k, (upd_n (by omega)).trans hk, by omega⟩, Ke.of hI.2.1 (fun m hm => upd_n (by omega)) (fun k hk => upd_n (by omega))⟩
/-- a request is sent -/
theorem YQ.send {n c p : Nat} (hn : n < 8) (hl : l < 4) (he : e < 64) (hc : c ≤ e) (hp : p < 1024) (hQ : YQ r) : YQ (rSend r n (nI (rq l e c p))) := by
  unfold rSend
  split
  · rename_i hu
    intro n' i hn' hi h100
    by_cases hnn : n' = n
    · subst hnn
      rw [rRecv_w, cl_nI (by omega)] at hi
      by_cases hq : i = cl (r (11 + n'))
      · rw [hq, rRecv_q hn', cl_nI (by unfold rq; omega)]
        unfold rq
        omega
      · rw [rRecv_ne (by omega) (by omega)]
        exact hQ n' i hn' (by omega) h100
    · rw [rRecv_ne (by omega) (by omega)] at hi
      rw [rRecv_ne (by omega) (by omega)]
      exact hQ n' i hn' hi h100
  · exact hQ
theorem rSend_o {n i : Nat} {v : Int32} (h1 : i ≠ 11 + n) (h2 : ¬ (19 + 100 * n ≤ i ∧ i < 119 + 100 * n)) : rSend r n v i = r i := by
  unfold rSend
  split
  · exact rRecv_ne h1 (by omega)
  · rfl
theorem Go.send {n c p : Nat} (hI : Inv r nc lc) (hn : n < 8) (hl : l < 4) (he : e < 64) (hc : c ≤ e) (hp : p < 1024) : Go lc 0 r (rSend r n (nI (rq l e c p))) := Go.sl hI (fun i hi => rSend_o (by omega) (by omega)) (YQ.send hn hl he hc hp) (rSend_o (by omega) (by omega)) (fun m hm => rSend_o (by omega) (by omega))
/-- a node acknowledges an entry that it stores -/
theorem tb_or {a n m : Nat} (h : (a ||| 2 ^ n).testBit m = true) : a.testBit m = true ∨ m = n := by
  rw [Nat.testBit_or, Bool.or_eq_true, Nat.testBit_two_pow, decide_eq_true_eq] at h
  exact h.elim Or.inl (fun q => Or.inr q.symm)
theorem Y.ack {n : Nat} (hI : Inv r nc lc) (hl : l < lc) (hn : n < nc) (he : e < vf r l 4) (hst : r (819 + 160 * n + 40 * l + e) ≠ 0) (hY : Y r lc) : Y (rAck r l e n) lc ∧ ∀ k, k < lc → fl r k ≤ fl (rAck r l e n) k := by
  have h8 := hI.1
  have h4 := hI.2.1
  have hL := inv_l hI hl
  have h40 := hL.2.2.2.2.2.1
  have hF := hL.2.2.2.2.2.2.1
  have hb := hL.2.2.2.2.2.2.2.2.2.2.2.2.1 e he
  have hst2 := hL.2.2.2.2.2.2.2.2.2.1
  unfold rAck
  by_cases hq : vf r l 3 = 0 ∧ (wsM r l (frg r l e) e).testBit n = true
  · rw [if_pos hq]
    obtain ⟨m, hm⟩ : ∃ m, m = vf r l (47 + e) ||| 2 ^ n := ⟨_, rfl⟩
    have hm8 : m < 256 := by rw [hm]; exact Nat.or_lt_two_pow (n := 8) hb (Nat.pow_lt_pow_right (by omega) (by omega))
    rw [← hm]
    have hne : ∀ i, i ≠ 2131 + 333 * l + (47 + e) → rA r l e (nI m) i = r i := fun i hi => rA_o hi
    have hz : Lz r (rA r l e (nI m)) l := fun w hw hw2 => hne _ (by omega)
    have hve : vf (rA r l e (nI m)) l (47 + e) = m := by
      show cl (rA r l e (nI m) _) = m
      rw [rA_s, cl_nI (by omega)]
    have hvo : ∀ k, k ≠ e → vf (rA r l e (nI m)) l (47 + k) = vf r l (47 + k) := fun k hk => vfo (hne _ (by omega))
    have hpc : ∀ k, pc (vf r l (47 + k)) ≤ pc (vf (rA r l e (nI m)) l (47 + k)) := fun k => by
      by_cases hk : k = e
      · rw [hk, hve, hm]; exact pc_mono hb (by omega)
      · rw [hvo k hk]; exact Nat.le_refl _
    have h3 : vf (rA r l e (nI m)) l 3 = 0 := (vfo (hne _ (by omega))).trans hq.1
    have key : ∀ k, k < lc → YL (rA r l e (nI m)) k ∧ fl r k ≤ fl (rA r l e (nI m)) k := fun k hk => by
      by_cases hkl : k = l
      · subst hkl
        obtain ⟨hK, hC⟩ := (hY.2.2 k hk).1 (by omega)
        refine ⟨⟨fun _ => ⟨YK.of hL hz (fun e' n' he' hn' hbit => ?_), fun e' he' => ?_⟩, fun q => by omega⟩, ?_⟩
        · rw [hne _ (by omega)]
          by_cases hee : e' = e
          · subst hee
            rw [hve, hm] at hbit
            rcases tb_or hbit with h | h
            · exact hK e' n' he' hn' h
            · subst h; exact ⟨hst, hq.2⟩
          · rw [hvo e' hee] at hbit
            exact hK e' n' he' hn' hbit
        · rw [hz.v (w := 6) (by omega) (by omega), hz.v (w := 87 + (vf r k 6 - 1)) (by omega) (by omega)] at he'
          rw [hz.v (w := 2) (by omega) (by omega)]
          exact Nat.le_trans (hC e' he') (hpc e')
        · unfold fl
          rw [if_neg (by omega), if_neg (by omega)]
          unfold rCf
          rw [hz.v (w := 4) (by omega) (by omega), hz.v (w := 2) (by omega) (by omega)]
          refine lead_mono _ 0 (fun j _ _ hj => ?_)
          exact decide_eq_true (Nat.le_trans (of_decide_eq_true hj) (hpc j))
      · exact YL.congr (inv_l hI hk) (fun w _ => hne _ (by omega)) (fun n' e' _ _ q => by rw [hne _ (by omega)]; exact q) (hY.2.2 k hk)
    refine ⟨⟨fun n' l' e' hn' hl' he' hs => ?_, fun n' i hn' hi h100 => ?_, fun k hk => (key k hk).1⟩, fun k hk => (key k hk).2⟩
    · rw [hne _ (by omega)] at hs ⊢
      rw [vfo (hne _ (by omega))]
      exact hY.1 n' l' e' hn' hl' he' hs
    · rw [hne _ (by omega)] at hi
      rw [hne _ (by omega)]
      exact hY.2.1 n' i hn' hi h100
  · rw [if_neg hq]
    exact ⟨hY, fun _ _ => Nat.le_refl _⟩
theorem rAck_x {n i : Nat} (h : i ≠ 2131 + 333 * l + (47 + e)) : rAck r l e n i = r i := by
  unfold rAck
  split
  · exact rA_o h
  · rfl
theorem Go.ack {n : Nat} (hI : Inv r nc lc) (hl : l < lc) (hn : n < nc) (he : e < vf r l 4) (hst : r (819 + 160 * n + 40 * l + e) ≠ 0) : Go lc 0 r (rAck r l e n) := ⟨fun hY => Y.ack hI hl hn he hst hY, fun k hk => ⟨k, by
  have h40 := (inv_l hI hl).2.2.2.2.2.1
  rw [rAck_o (by omega) (by unfold lIx; omega)]
  exact hk, by omega⟩, Ke.of hI.2.1 (fun m hm => rAck_x (by omega)) (fun k hk => rAck_x (by
  have h40 := (inv_l hI hl).2.2.2.2.2.1
  omega))⟩
end LZ
