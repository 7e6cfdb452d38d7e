/-! addNode -/
def fil (f : Nat → Int32) (v : Int32) (k : Nat) : Nat → Int32 := fun i => if i < k then v else f i
theorem fil_s {f : Nat → Int32} {v : Int32} {k : Nat} : upd (fil f v k) k v = fil f v (k + 1) := by
  funext i
  by_cases hi : i = k
  · subst hi
    rw [upd_s]
    unfold fil
    rw [if_pos (by omega)]
  · rw [upd_n hi]
    unfold fil
    by_cases hq : i < k
    · rw [if_pos hq, if_pos (by omega)]
    · rw [if_neg hq, if_neg (by omega)]
theorem fil_loop {M : Mem} {n q : Nat} {v : Int32} {f : Nat → Int32} (hn : n < 50000) : ∀ (d k g : Nat), k + d = n → d < g → m_J7_fill_53178_L5 n q v g (nI k) (nI n) (sR q (fil f v k) M) = some (sR q (fil f v n) M) := by
  intro d
  induction d with
  | zero =>
    intro k g h1 h3
    obtain ⟨g, rfl⟩ : ∃ k, g = k + 1 := ⟨g - 1, by omega⟩
    rw [m_J7_fill_53178_L5_s, if_pos (nI_le (by omega) (by omega)), show k = n by omega]
  | succ d ih =>
    intro k g h1 h3
    obtain ⟨g, rfl⟩ : ∃ k, g = k + 1 := ⟨g - 1, by omega⟩
    rw [m_J7_fill_53178_L5_s, if_neg (nI_ge (by omega) (by omega)), ck_ix (by omega) (by omega), aI_nI (by omega), gR_self, sR_sR, fil_s, nI_1]
    exact ih (k + 1) g (by omega) (by omega)
theorem fill_ok {M : Mem} {n q : Nat} {v : Int32} (hn : n < 50000) : m_J7_fill_53178 n q v M = some (sR q (fil (gR M q) v n) M) := by
  have h := fil_loop (M := M) (q := q) (v := v) (f := gR M q) hn n 0 fuel (by omega) (by unfold fuel; omega)
  rw [show fil (gR M q) v 0 = gR M q from funext fun i => if_neg (by omega), sR_id] at h
  exact h
theorem rW_0 {r : Nat → Int32} {n k : Nat} (h : ∀ j, j < k → r (819 + 160 * n + j) = 0) : rW r n k = 0 := by
  induction k with
  | zero => rfl
  | succ k ih =>
    unfold rW
    rw [ih (fun j hj => h j (by omega)), if_pos (h k (by omega))]
theorem on_sm {α : Type} {q : Nat} {a : α} {f : Nat → α} : on (some q) a f = f q := rfl
def rAdd (r : Nat → Int32) (n : Nat) : Nat → Int32 := upd (upd r (3 + n) 1) 0 (nI (n + 1))
theorem rAdd_ne {r : Nat → Int32} {n i : Nat} (h1 : i ≠ 3 + n) (h2 : i ≠ 0) : rAdd r n i = r i := by
  unfold rAdd
  rw [upd_n h2, upd_n h1]
theorem add_Inv {r : Nat → Int32} {nc lc : Nat} (h8 : nc < 8) (hI : Inv r nc lc) : Inv (rAdd r nc) (nc + 1) lc := by
  obtain ⟨-, h4, h0, h1, h2, h3, h5, h6⟩ := hI
  refine ⟨by omega, h4, upd_s, by rw [rAdd_ne (by omega) (by omega)]; exact h1, fun k hk => ?_, fun k hk hk8 => ?_, fun l hl => ?_, fun l hl hl4 => ?_⟩
  · by_cases hq : k = nc
    · obtain ⟨z0, z1, z2, z3⟩ := h3 nc (Nat.le_refl _) h8
      subst hq
      refine ⟨Or.inr (by unfold rAdd; rw [upd_n (by omega), upd_s]), ⟨0, by omega, by rw [rAdd_ne (by omega) (by omega)]; exact z1, fun _ => rfl, fun i hi => absurd hi (Nat.not_lt_zero i)⟩, fun j hj => ?_, fun l hl => ?_⟩
      · rw [rAdd_ne (by omega) (by omega)]; exact Or.inl (z2 j hj)
      · rw [rAdd_ne (by omega) (by omega)]; exact Or.inl (z3 l hl)
    · refine (h2 k (by omega)).congr (by omega) (Nat.le_refl _) (fun i hi => rAdd_ne (by unfold nIx at hi; omega) (by unfold nIx at hi; omega)) (fun l hl => Nat.le_of_eq ?_)
      show cl (r _) = cl (rAdd r nc _)
      rw [rAdd_ne (by omega) (by omega)]
  · exact (h3 k (by omega) hk8).congr hk8 (fun i hi => rAdd_ne (by unfold nIx at hi; omega) (by unfold nIx at hi; omega))
  · exact (h5 l hl).congr (by omega) (fun i hi => rAdd_ne (by unfold lIx at hi; omega) (by unfold lIx at hi; omega))
  · exact (h6 l hl hl4).congr (fun i hi => rAdd_ne (by unfold lIx at hi; omega) (by unfold lIx at hi; omega))
/-- the class's memory behind beginNode -/
theorem begN_ok {M : Mem} {B nc lc : Nat} {r : Nat → Int32} (hB : B % 64 = 0) (h8 : nc < 8) (hI : Inv r nc lc) (hR : RC B r M) : ∃ M', m_X3_beginNode B M = some (nI nc, M') ∧ RC B (rAdd r nc) M' ∧ Fb B M M' ∧ ∀ l, gF M' (B + 27 + 5 * l) = gF M (B + 27 + 5 * l) := by
  have h4 := hI.2.1
  have hc1 : cl (r 1) = lc := by rw [hI.2.2.2.1, cl_nI (by omega)]
  obtain ⟨z0, z1, z2, z3⟩ := hI.2.2.2.2.2.1 nc (Nat.le_refl _) h8
  have h0 := rc_nc hR hI
  unfold m_X3_beginNode
  rw [h0, nI_1, node_of (nc := nc + 1) gF_self (by omega) (by omega), bind_s]
  rw [on_sm]
  unfold m_X1_begin
  rw [fill_ok (by omega), bind_s, bind_s]
  have hd : ∀ c, c ≠ B → ¬ (B + 3 + 3 * nc ≤ c ∧ c ≤ B + 3 + 3 * nc + 1) → gF (sR (B + 3 + 3 * nc + 1) (fil (gR (sF (B + 3 + 3 * nc) 3 0 (sF (B + 3 + 3 * nc) 2 0 (sF (B + 3 + 3 * nc) 1 0 (sF (B + 3 + 3 * nc) 0 1 (sF B 0 (nI (nc + 1)) M))))) (B + 3 + 3 * nc + 1)) (-1) 160) (sF (B + 3 + 3 * nc) 3 0 (sF (B + 3 + 3 * nc) 2 0 (sF (B + 3 + 3 * nc) 1 0 (sF (B + 3 + 3 * nc) 0 1 (sF B 0 (nI (nc + 1)) M)))))) c = gF M c ∧ gR (sR (B + 3 + 3 * nc + 1) (fil (gR (sF (B + 3 + 3 * nc) 3 0 (sF (B + 3 + 3 * nc) 2 0 (sF (B + 3 + 3 * nc) 1 0 (sF (B + 3 + 3 * nc) 0 1 (sF B 0 (nI (nc + 1)) M))))) (B + 3 + 3 * nc + 1)) (-1) 160) (sF (B + 3 + 3 * nc) 3 0 (sF (B + 3 + 3 * nc) 2 0 (sF (B + 3 + 3 * nc) 1 0 (sF (B + 3 + 3 * nc) 0 1 (sF B 0 (nI (nc + 1)) M)))))) c = gR M c := fun c h1 h2 =>
    ⟨(gF_sF_ne (by omega)).trans ((gF_sF_ne (by omega)).trans ((gF_sF_ne (by omega)).trans ((gF_sF_ne (by omega)).trans (gF_sF_ne h1)))), gR_ne (by omega)⟩
  have hBn : ∀ (k : Nat) (v : Int32) (N : Mem), gF (sF (B + 3 + 3 * nc) k v N) B = gF N B := fun k v N => gF_sF_ne (by omega)
  refine ⟨_, rfl, ⟨?_, ?_, ?_, fun n hn => ?_, fun l hl => ?_⟩, ((((((Fb.rf.sF rfl).sF (by omega)).sF (by omega)).sF (by omega)).sF (by omega)).sR (by omega)), fun l => ?_⟩
  · rw [gF_sR, hBn, hBn, hBn, hBn, gF_self]; exact upd_s.symm
  · rw [gF_sR, hBn, hBn, hBn, hBn, gF_ne (by decide), hR.2.1, rAdd_ne (by omega) (by omega)]
  · rw [gF_sR, hBn, hBn, hBn, hBn, gF_ne (by decide), hR.2.2.1, rAdd_ne (by omega) (by omega)]
  · rw [show rAdd r nc 0 = nI (nc + 1) from upd_s, cl_nI (by omega)] at hn
    by_cases hq : n = nc
    · subst hq
      refine ⟨?_, ⟨0, by omega, ?_, fun l hl => ?_⟩, ?_, ?_, fun l e hl he => ?_, fun i hi h100 => ?_⟩
      · rw [gF_sR, gF_ne (by decide), gF_ne (by decide), gF_ne (by decide), gF_self]
        unfold rAdd
        rw [upd_n (by omega), upd_s]
      · rw [gF_sR, gF_ne (by decide), gF_ne (by decide), gF_self]; rfl
      · rw [rAdd_ne (by omega) (by omega), z3 l hl, Nat.zero_testBit]; rfl
      · rw [gF_sR, gF_ne (by decide), gF_self, rW_0 (fun j hj => by rw [rAdd_ne (by omega) (by omega)]; exact z2 j hj)]; rfl
      · rw [gF_sR, gF_self, rAdd_ne (by omega) (by omega), z1]
      · rw [gR_self, rAdd_ne (by omega) (by omega), Nat.add_assoc (819 + 160 * n) (40 * l) e, z2 (40 * l + e) (by omega), stc_0]
        exact if_pos (by omega)
      · rw [rAdd_ne (by omega) (by omega), z1] at hi
        exact absurd hi (Nat.not_lt_zero i)
    · exact (rc_n hR hI (by omega)).congr (by omega) (fun c h1 h2 => hd c (by omega) (by omega)) (fun i hi => rAdd_ne (by unfold nIx at hi; omega) (by unfold nIx at hi; omega))
  · rw [rAdd_ne (by omega) (by omega), hc1] at hl
    exact (rc_l hR hI hl).congr (by omega) (fun c h1 h2 => hd c (by omega) (by omega)) (fun i hi => rAdd_ne (by unfold lIx at hi; omega) (by unfold lIx at hi; omega))
  · exact (hd _ (by omega) (by omega)).1
