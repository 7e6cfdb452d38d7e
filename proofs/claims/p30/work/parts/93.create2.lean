/-! createLedger: the new ledger -/
def gN : Option Nat → Nat
  | none => 0
  | some n => n
def mS (r : Nat → Int32) (nc : Nat) : Nat → Nat
  | 0 => 0
  | k + 1 => mS r nc k ||| 2 ^ gN (rCh r (mS r nc k) nc)
/-- the nodes chosen, one after the other -/
def gC (r : Nat → Int32) (nc k : Nat) : Nat := gN (rCh r (mS r nc k) nc)
theorem mS_or {r : Nat → Int32} {nc : Nat} : ∀ k, mS r nc k = orB (gC r nc) k := by
  intro k
  induction k with
  | zero => rfl
  | succ k ih =>
    show mS r nc k ||| 2 ^ gC r nc k = orB (gC r nc) k ||| 2 ^ gC r nc k
    rw [ih]
theorem gC_ok {r : Nat → Int32} {nc : Nat} (h8 : nc ≤ 8) : ∀ k, k ≤ pc (upM r nc) → (∀ i, i < k → rCh r (orB (gC r nc) i) nc = some (gC r nc i)) ∧ ∀ i j, i < j → j < k → gC r nc i ≠ gC r nc j := by
  intro k
  induction k with
  | zero => exact fun _ => ⟨fun i hi => absurd hi (Nat.not_lt_zero i), fun i j _ hj => absurd hj (Nat.not_lt_zero j)⟩
  | succ k ih =>
    intro hk
    obtain ⟨h1, h2⟩ := ih (by omega)
    have hg : ∀ i, i < k → gC r nc i < 8 := fun i hi => Nat.lt_of_lt_of_le (rCh_lt nc _ (h1 i hi)).1 h8
    obtain ⟨n, hn⟩ := rCh_some (r := r) h8 hg h2 (by omega)
    have hgk : gC r nc k = n := by
      unfold gC
      rw [mS_or, hn]
      rfl
    have hnb := (rCh_lt nc _ hn).2.2
    refine ⟨fun i hi => ?_, fun i j hij hj => ?_⟩
    · by_cases hq : i = k
      · rw [hq, hgk]; exact hn
      · exact h1 i (by omega)
    · by_cases hq : j = k
      · rw [hq, hgk]
        intro hx
        rw [orB_bit.mpr ⟨i, by omega, hx⟩] at hnb
        cases hnb
      · exact h2 i j hij (by omega)
def rC0 (r : Nat → Int32) (l E W A : Nat) : Nat → Int32 := upd (upd (upd (upd (upd (upd r 1 (nI (l + 1))) (2131 + 333 * l + 0) (nI E)) (2131 + 333 * l + 1) (nI W)) (2131 + 333 * l + 2) (nI A)) (2131 + 333 * l + 5) (-1)) (2131 + 333 * l + 6) (nI 1)
def rCk (r : Nat → Int32) (l : Nat) (g : Nat → Nat) (k : Nat) : Nat → Int32 := fun i => if 2131 + 333 * l + 128 ≤ i ∧ i < 2131 + 333 * l + 128 + k then nI (g (i - (2131 + 333 * l + 128))) else r i
theorem rCk_s {r : Nat → Int32} {l k : Nat} {g : Nat → Nat} : upd (rCk r l g k) (2131 + 333 * l + (128 + k)) (nI (g k)) = rCk r l g (k + 1) := by
  funext i
  by_cases hi : i = 2131 + 333 * l + (128 + k)
  · subst hi
    rw [upd_s]
    unfold rCk
    rw [if_pos ⟨by omega, by omega⟩, show 2131 + 333 * l + (128 + k) - (2131 + 333 * l + 128) = k by omega]
  · rw [upd_n hi]
    unfold rCk
    by_cases hq : 2131 + 333 * l + 128 ≤ i ∧ i < 2131 + 333 * l + 128 + k
    · rw [if_pos hq, if_pos ⟨hq.1, by omega⟩]
    · rw [if_neg hq, if_neg (fun q => hq ⟨q.1, by omega⟩)]
/-- the row behind createLedger -/
abbrev rNew (r : Nat → Int32) (nc l E W A : Nat) : Nat → Int32 := rCk (rC0 r l E W A) l (gC r nc) E
section CR2
variable {M : Mem} {B a nc lc l E W A : Nat} {r : Nat → Int32}
theorem rC0_o {i : Nat} (h1 : i ≠ 1) (h : ¬ lIx l i) : rC0 r l E W A i = r i := by
  unfold lIx at h
  unfold rC0
  rw [upd_n (by omega), upd_n (by omega), upd_n (by omega), upd_n (by omega), upd_n (by omega), upd_n h1]
theorem rCk_o {i k : Nat} {g : Nat → Nat} (hk : k ≤ 5) (h1 : i ≠ 1) (h : ¬ lIx l i) : rCk (rC0 r l E W A) l g k i = r i := by
  unfold lIx at h
  unfold rCk
  rw [if_neg (fun q => by omega)]
  exact rC0_o h1 (by unfold lIx; omega)
theorem rCk_w {w k : Nat} {g : Nat → Nat} (hw : w < 128) : rCk (rC0 r l E W A) l g k (2131 + 333 * l + w) = rC0 r l E W A (2131 + 333 * l + w) := by
  unfold rCk
  rw [if_neg (fun q => by omega)]
theorem rCk_m {p k : Nat} {g : Nat → Nat} (hp : p < k) : rCk (rC0 r l E W A) l g k (2131 + 333 * l + (128 + p)) = nI (g p) := by
  unfold rCk
  rw [if_pos ⟨by omega, by omega⟩, show 2131 + 333 * l + (128 + p) - (2131 + 333 * l + 128) = p by omega]
theorem rCk_1 {k : Nat} {g : Nat → Nat} : rCk (rC0 r l E W A) l g k 1 = nI (l + 1) := by
  unfold rCk
  rw [if_neg (fun q => by omega)]
  unfold rC0
  rw [upd_n (by omega), upd_n (by omega), upd_n (by omega), upd_n (by omega), upd_n (by omega), upd_s]
theorem rC0_0 : rC0 r l E W A (2131 + 333 * l + 0) = nI E := by
  unfold rC0
  rw [upd_n (by omega), upd_n (by omega), upd_n (by omega), upd_n (by omega), upd_s]
theorem rC0_1 : rC0 r l E W A (2131 + 333 * l + 1) = nI W := by
  unfold rC0
  rw [upd_n (by omega), upd_n (by omega), upd_n (by omega), upd_s]
theorem rC0_2 : rC0 r l E W A (2131 + 333 * l + 2) = nI A := by
  unfold rC0
  rw [upd_n (by omega), upd_n (by omega), upd_s]
theorem rC0_5 : rC0 r l E W A (2131 + 333 * l + 5) = -1 := by
  unfold rC0
  rw [upd_n (by omega), upd_s]
theorem rC0_6 : rC0 r l E W A (2131 + 333 * l + 6) = nI 1 := upd_s
theorem rC0_z {w : Nat} (hZ : ZL r l) (hw : w < 333) (h : w ≠ 0 ∧ w ≠ 1 ∧ w ≠ 2 ∧ w ≠ 5 ∧ w ≠ 6) : rC0 r l E W A (2131 + 333 * l + w) = 0 := by
  unfold rC0
  rw [upd_n (by omega), upd_n (by omega), upd_n (by omega), upd_n (by omega), upd_n (by omega), upd_n (by omega), hZ w hw]
theorem vf_is {r' : Nat → Int32} {w k : Nat} (h : r' (2131 + 333 * l + w) = nI k) (hk : k < 2147483648) : vf r' l w = k := by
  show cl (r' _) = k
  rw [h, cl_nI hk]
theorem new_LI (h8 : nc ≤ 8) (hZ : ZL r l) (hl : l < 4) (h1 : 1 ≤ E ∧ E ≤ 5) (h2 : 1 ≤ W ∧ W ≤ E) (h3 : 1 ≤ A ∧ A ≤ W) (hup : E ≤ pc (upM r nc)) : LI (rNew r nc l E W A) nc l := by
  obtain ⟨g1, g2⟩ := gC_ok (r := r) h8 E hup
  have hg : ∀ i, i < E → gC r nc i < nc := fun i hi => (rCh_lt nc _ (g1 i hi)).1
  have c0 : rNew r nc l E W A (2131 + 333 * l + 0) = nI E := (rCk_w (by omega)).trans rC0_0
  have c1 : rNew r nc l E W A (2131 + 333 * l + 1) = nI W := (rCk_w (by omega)).trans rC0_1
  have c2 : rNew r nc l E W A (2131 + 333 * l + 2) = nI A := (rCk_w (by omega)).trans rC0_2
  have c5 : rNew r nc l E W A (2131 + 333 * l + 5) = -1 := (rCk_w (by omega)).trans rC0_5
  have c6 : rNew r nc l E W A (2131 + 333 * l + 6) = nI 1 := (rCk_w (by omega)).trans rC0_6
  have cm : ∀ p, p < E → rNew r nc l E W A (2131 + 333 * l + (128 + p)) = nI (gC r nc p) := fun p hp => rCk_m hp
  have cz : ∀ w, w < 333 → (w ≠ 0 ∧ w ≠ 1 ∧ w ≠ 2 ∧ w ≠ 5 ∧ w ≠ 6) → (w < 128 ∨ 128 + E ≤ w) → rNew r nc l E W A (2131 + 333 * l + w) = nI 0 := fun w hw hn hm => by
    show rCk _ _ _ _ _ = _
    unfold rCk
    rw [if_neg (fun q => by omega), rC0_z hZ hw hn]
    rfl
  have v0 := vf_is c0 (by omega)
  have v1 := vf_is c1 (by omega)
  have v2 := vf_is c2 (by omega)
  have v3 := vf_is (cz 3 (by omega) (by omega) (by omega)) (by omega)
  have v4 := vf_is (cz 4 (by omega) (by omega) (by omega)) (by omega)
  have v6 := vf_is c6 (by omega)
  have v87 := vf_is (cz 87 (by omega) (by omega) (by omega)) (by omega)
  have vm : ∀ p, p < E → mbf (rNew r nc l E W A) l 0 p = gC r nc p := fun p hp => by
    show vf _ l (128 + 5 * 0 + p) = _
    rw [show 128 + 5 * 0 + p = 128 + p by omega]
    exact vf_is (cm p hp) (by have := hg p hp; omega)
  unfold LI
  rw [v0, v1, v2, v3, v4, v6, v87]
  refine ⟨fun w hw hw5 => ?_, h1, h2, h3, by omega, by omega, by omega, rfl, fun f hf => by omega, ?_, fun f p hf hp => ?_, fun f p q hf hp hq => ?_, fun e he => by omega, fun e he => by omega, fun _ e he => ?_, 0, by omega, ?_⟩
  · have key : ∀ k, k < 2147483648 → rNew r nc l E W A (2131 + 333 * l + w) = nI k → rNew r nc l E W A (2131 + 333 * l + w) = nI (vf (rNew r nc l E W A) l w) := fun k hk h => by rw [vf_is h hk, h]
    by_cases q0 : w = 0
    · subst q0; exact key E (by omega) c0
    · by_cases q1 : w = 1
      · subst q1; exact key W (by omega) c1
      · by_cases q2 : w = 2
        · subst q2; exact key A (by omega) c2
        · by_cases q6 : w = 6
          · subst q6; exact key 1 (by omega) c6
          · by_cases qm : w < 128 ∨ 128 + E ≤ w
            · exact key 0 (by omega) (cz w hw ⟨q0, q1, q2, hw5, q6⟩ qm)
            · have := cm (w - 128) (by omega)
              rw [show 128 + (w - 128) = w by omega] at this
              exact key _ (by have := hg (w - 128) (by omega); omega) this
  · exact Nat.le_refl 0
  · rw [show f = 0 by omega, vm p hp]
    exact hg p hp
  · rw [show f = 0 by omega, vm p (by omega), vm q hq]
    exact g2 p q hp hq
  · omega
  · rw [c5]
    rfl
theorem new_I (hI : Inv r nc lc) (hl : lc < 4) (h1 : 1 ≤ E ∧ E ≤ 5) (h2 : 1 ≤ W ∧ W ≤ E) (h3 : 1 ≤ A ∧ A ≤ W) (hup : E ≤ pc (upM r nc)) : Inv (rNew r nc lc E W A) nc (lc + 1) := by
  have ho : ∀ i, i ≠ 1 → ¬ lIx lc i → rNew r nc lc E W A i = r i := fun i h h' => rCk_o (by omega) h h'
  obtain ⟨h8, h4, h0, h1', h2', h3', h5, h6⟩ := id hI
  refine ⟨h8, by omega, by rw [ho 0 (by omega) (by unfold lIx; omega)]; exact h0, rCk_1, fun k hk => ?_, fun k hk hk8 => ?_, fun k hk => ?_, fun k hk hk4 => ?_⟩
  · refine (h2' k hk).congr (by omega) (by omega) (fun i hi => ho i (by unfold nIx at hi; omega) (by unfold nIx at hi; unfold lIx; omega)) (fun k2 hk2 => Nat.le_of_eq ?_)
    exact (vf_o (ho _ (by omega) (by unfold lIx; omega))).symm
  · exact (h3' k hk hk8).congr hk8 (fun i hi => ho i (by unfold nIx at hi; omega) (by unfold nIx at hi; unfold lIx; omega))
  · by_cases hq : k = lc
    · rw [hq]; exact new_LI h8 (h6 lc (Nat.le_refl _) hl) hl h1 h2 h3 hup
    · exact (h5 k (by omega)).congr (Nat.le_refl _) (fun i hi => ho i (by unfold lIx at hi; omega) (by unfold lIx at hi ⊢; omega))
  · exact (h6 k (by omega) hk4).congr (fun i hi => ho i (by unfold lIx at hi; omega) (by unfold lIx at hi ⊢; omega))
/-- the reference's loop -/
theorem cre_ref (h8 : nc ≤ 8) (h0 : r 0 = nI nc) (hl : l < 4) (hE : E ≤ 5) (hup : E ≤ pc (upM r nc)) {x2 x3 : Int32} : ∀ (d k f : Nat), k + d = E → d < f → m_X6_createLedger_L137 3 (nI E) x2 x3 f (nI l) (nI (orB (gC r nc) k)) (nI k) (sR 4 (rCk (rC0 r l E W A) l (gC r nc) k) M) = some (nI l, sR 4 (rNew r nc l E W A) M) := by
  obtain ⟨g1, g2⟩ := gC_ok (r := r) h8 E hup
  have hg : ∀ i, i < E → gC r nc i < nc := fun i hi => (rCh_lt nc _ (g1 i hi)).1
  intro d
  induction d with
  | zero =>
    intro k f h1 h2
    obtain ⟨f, rfl⟩ : ∃ k, f = k + 1 := ⟨f - 1, by omega⟩
    rw [m_X6_createLedger_L137_s, if_pos (nI_le (by omega) (by omega)), show k = E by omega]
  | succ d ih =>
    intro k f h1 h2
    obtain ⟨f, rfl⟩ : ∃ k, f = k + 1 := ⟨f - 1, by omega⟩
    have hS : orB (gC r nc) k < 256 := orB_lt (fun i hi => Nat.lt_of_lt_of_le (hg i (by omega)) h8)
    have hch := choose_ok (M := sR 4 (rCk (rC0 r l E W A) l (gC r nc) k) M) hS (nc := nc) (by rw [gR_self, rCk_o (by omega) (by omega) (by unfold lIx; omega)]; exact h0) h8
    rw [gR_self, rCh_congr (r := r) (fun i h1 h2 => rCk_o (by omega) (by omega) (by unfold lIx; omega)) nc h8, g1 k (by omega)] at hch
    have hgk := hg k (by omega)
    rw [m_X6_createLedger_L137_s, if_neg (nI_ge (by omega) (by omega)), hch, bind_s, show on1 (some (gC r nc k)) = nI (gC r nc k) from rfl, show (128 : Int32) = nI 128 from rfl, nI_add, set_ok (by omega), bind_s, gR_self, sR_sR, rCk_s, shl1 (by omega), or_nI, nI_1]
    exact ih (k + 1) f (by omega) (by omega)
/-- the class's loops -/
theorem beg_loop {x2 x3 : Int32} (hE : E ≤ 5) : ∀ (d k f : Nat) (M : Mem), k + d = E → d < f → ∃ q, m_X0_begin_L45 a (nI E) x2 x3 f (nI k) M = some (sR (a + 4) q M) ∧ (∀ p, k ≤ p → p < E → q p = -1) ∧ ∀ p, p < k → q p = gR M (a + 4) p := by
  intro d
  induction d with
  | zero =>
    intro k f M h1 h2
    obtain ⟨f, rfl⟩ : ∃ k, f = k + 1 := ⟨f - 1, by omega⟩
    refine ⟨gR M (a + 4), ?_, fun p h3 h4 => by omega, fun p _ => rfl⟩
    rw [m_X0_begin_L45_s, if_pos (nI_le (by omega) (by omega)), sR_id]
  | succ d ih =>
    intro k f M h1 h2
    obtain ⟨f, rfl⟩ : ∃ k, f = k + 1 := ⟨f - 1, by omega⟩
    obtain ⟨q, e1, e2, e3⟩ := ih (k + 1) f (sR (a + 4) (upd (gR M (a + 4)) k (-1)) M) (by omega) (by omega)
    rw [gR_self] at e3
    refine ⟨q, ?_, fun p h3 h4 => ?_, fun p h3 => ?_⟩
    · rw [m_X0_begin_L45_s, if_neg (nI_ge (by omega) (by omega)), show m_X0_setNode a 0 (nI k) (-1) M = _ from setN_ok (f := 0) (p := k) (by omega) (by omega), bind_s, Nat.mul_zero, Nat.zero_add, nI_1, e1, sR_sR]
    · by_cases hq : p = k
      · rw [hq, e3 k (by omega), upd_s]
      · exact e2 p (by omega) h4
    · rw [e3 p (by omega), upd_n (by omega)]
theorem cre_cls (h8 : nc ≤ 8) (hE : E ≤ 5) (hup : E ≤ pc (upM r nc)) (ha : a = B + 27 + 5 * l) {x2 x3 v : Int32} : ∀ (d k f : Nat) (M : Mem), k + d = E → d < f → gF M a 1 = nI E → (∀ p, p < E → gR M (a + 4) p = if p < k then nI (gC r nc p) else -1) → Ch B M r nc → ∃ q, m_X3_beginLedger_L40 B (nI E) x2 x3 f v a (nI k) M = some (v, sR (a + 4) q M) ∧ ∀ p, p < E → q p = nI (gC r nc p) := by
  obtain ⟨g1, g2⟩ := gC_ok (r := r) h8 E hup
  have hg : ∀ i, i < E → gC r nc i < nc := fun i hi => (rCh_lt nc _ (g1 i hi)).1
  intro d
  induction d with
  | zero =>
    intro k f M h1 h2 hF hm hC
    obtain ⟨f, rfl⟩ : ∃ k, f = k + 1 := ⟨f - 1, by omega⟩
    refine ⟨gR M (a + 4), ?_, fun p hp => ?_⟩
    · rw [m_X3_beginLedger_L40_s, if_pos (nI_le (by omega) (by omega)), sR_id]
    · rw [hm p hp, if_pos (by omega)]
  | succ d ih =>
    intro k f M h1 h2 hF hm hC
    obtain ⟨f, rfl⟩ : ∃ k, f = k + 1 := ⟨f - 1, by omega⟩
    have hS : orB (gC r nc) k < 256 := orB_lt (fun i hi => Nat.lt_of_lt_of_le (hg i (by omega)) h8)
    have hen := pens_ok (g := gC r nc) (k := k) hE (by omega) hF hm (fun p hp => Nat.lt_of_lt_of_le (hg p (by omega)) h8)
    have hch := wchoose_ok hC hS
    rw [g1 k (by omega)] at hch
    obtain ⟨q, e1, e2⟩ := ih (k + 1) f (sR (a + 4) (upd (gR M (a + 4)) k (nI (gC r nc k))) M) (by omega) (by omega) hF (fun p hp => by
      rw [gR_self]
      by_cases hq : p = k
      · rw [hq, upd_s, if_pos (by omega)]
      · rw [upd_n hq, hm p hp]
        by_cases hq2 : p < k
        · rw [if_pos hq2, if_pos (by omega)]
        · rw [if_neg hq2, if_neg (by omega)]) (hC.mem rfl (fun _ _ => rfl))
    refine ⟨q, ?_, e2⟩
    rw [m_X3_beginLedger_L40_s, if_neg (nI_ge (by omega) (by omega)), show m_X0_ensembleMask a 0 M = _ from hen, bind_s, hch, bind_s, show on1 (some (gC r nc k)) = nI (gC r nc k) from rfl, show m_X0_setNode a 0 (nI k) (nI (gC r nc k)) M = _ from setN_ok (f := 0) (p := k) (by omega) (by omega), bind_s, Nat.mul_zero, Nat.zero_add, nI_1, e1, sR_sR]
end CR2
