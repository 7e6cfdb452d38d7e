/-! the reference notes its row among the past ones -/
theorem nIx_lt {n i : Nat} (hn : n < 8) (h : nIx n i) : i < 3463 := by unfold nIx at h; omega
theorem lIx_lt {l i : Nat} (hl : l < 4) (h : lIx l i) : i < 3463 := by unfold lIx at h; omega
theorem Inv.ext {r r' : Nat → Int32} {nc lc : Nat} (hr : ∀ i, i < 3463 → r' i = r i) (h : Inv r nc lc) : Inv r' nc lc := by
  obtain ⟨h8, h4, h0, h1, h2, h3, h5, h6⟩ := h
  refine ⟨h8, h4, by rw [hr 0 (by omega)]; exact h0, by rw [hr 1 (by omega)]; exact h1, fun k hk => ?_, fun k hk hk8 => ?_, fun l hl => ?_, fun l hl hl4 => ?_⟩
  · refine (h2 k hk).congr (by omega) (Nat.le_refl _) (fun i hi => hr i (nIx_lt (by omega) hi)) (fun l hl => Nat.le_of_eq ?_)
    show cl (r _) = cl (r' _)
    rw [hr _ (by omega)]
  · exact (h3 k hk hk8).congr hk8 (fun i hi => hr i (nIx_lt hk8 hi))
  · exact (h5 l hl).congr (Nat.le_refl _) (fun i hi => hr i (lIx_lt (by omega) hi))
  · exact (h6 l hl hl4).congr (fun i hi => hr i (lIx_lt hl4 hi))
theorem RC.ext {B nc lc : Nat} {r r' : Nat → Int32} {M M' : Mem} (hI : Inv r nc lc) (hr : ∀ i, i < 3463 → r' i = r i) (hM : ∀ c, B ≤ c → c < B + 47 → gF M' c = gF M c ∧ gR M' c = gR M c) (h : RC B r M) : RC B r' M' := by
  have h8 := hI.1
  have h4 := hI.2.1
  have eB := hM B (Nat.le_refl _) (by omega)
  have hc0 : cl (r 0) = nc := by rw [hI.2.2.1, cl_nI (by omega)]
  have hc1 : cl (r 1) = lc := by rw [hI.2.2.2.1, cl_nI (by omega)]
  refine ⟨by rw [eB.1, hr 0 (by omega), h.1], by rw [eB.1, hr 1 (by omega), h.2.1], by rw [eB.1, hr 2 (by omega), h.2.2.1], fun k hk => ?_, fun k hk => ?_⟩
  · rw [hr 0 (by omega), hc0] at hk
    exact (rc_n h hI hk).congr (by omega) (fun c h1 h2 => hM c (by omega) (by omega)) (fun i hi => hr i (nIx_lt (by omega) hi))
  · rw [hr 1 (by omega), hc1] at hk
    exact (rc_l h hI hk).congr (by omega) (fun c h1 h2 => hM c (by omega) (by omega)) (fun i hi => hr i (lIx_lt (by omega) hi))
/-- row 5 with k cells of s at place 3463 n -/
def put5 (s p : Nat → Int32) (n k : Nat) : Nat → Int32 := fun i => if 3463 * n ≤ i ∧ i < 3463 * n + k then s (i - 3463 * n) else p i
theorem put5_s {s p : Nat → Int32} {n k : Nat} : upd (put5 s p n k) (3463 * n + k) (s k) = put5 s p n (k + 1) := by
  funext i
  by_cases hi : i = 3463 * n + k
  · subst hi
    rw [upd_s]
    unfold put5
    rw [if_pos ⟨by omega, by omega⟩, Nat.add_sub_cancel_left]
  · rw [upd_n hi]
    unfold put5
    by_cases hq : 3463 * n ≤ i ∧ i < 3463 * n + k
    · rw [if_pos hq, if_pos ⟨hq.1, by omega⟩]
    · rw [if_neg hq, if_neg (fun q => hq ⟨q.1, by omega⟩)]
theorem put5_0 {s p : Nat → Int32} {n : Nat} : put5 s p n 0 = p := by
  funext i
  unfold put5
  rw [if_neg (fun q => by omega)]
/-- row 5 shifted in its first k cells -/
def shf5 (p : Nat → Int32) (k : Nat) : Nat → Int32 := fun i => if i < k then p (i + 3463) else p i
theorem shf5_s {p : Nat → Int32} {k : Nat} : upd (shf5 p k) k (shf5 p k (k + 3463)) = shf5 p (k + 1) := by
  funext i
  by_cases hi : i = k
  · subst hi
    rw [upd_s]
    unfold shf5
    rw [if_neg (by omega), if_pos (by omega)]
  · rw [upd_n hi]
    unfold shf5
    by_cases hq : i < k
    · rw [if_pos hq, if_pos (by omega)]
    · rw [if_neg hq, if_neg (by omega)]
theorem sF_sF {M : Mem} {c k : Nat} {v w : Int32} : sF c k w (sF c k v M) = sF c k w M := by
  have h : up2 (up2 M.1 c k v) c k w = up2 M.1 c k w := by
    funext a b
    unfold up2
    by_cases q : a = c ∧ b = k
    · rw [if_pos q, if_pos q]
    · rw [if_neg q, if_neg q, if_neg q]
  show ((up2 (up2 M.1 c k v) c k w, M.2) : Mem) = (up2 M.1 c k w, M.2)
  rw [h]
theorem shf5_0 {p : Nat → Int32} : shf5 p 0 = p := by
  funext i
  exact if_neg (by omega)
theorem put5_at {s p : Nat → Int32} {n k : Nat} (hk : k < 3463) : put5 s p n 3463 (3463 * n + k) = s k := by
  unfold put5
  rw [if_pos ⟨by omega, by omega⟩, Nat.add_sub_cancel_left]
theorem put5_no {s p : Nat → Int32} {n j k : Nat} (hj : j < n) (hk : k < 3463) : put5 s p n 3463 (3463 * j + k) = p (3463 * j + k) := by
  unfold put5
  rw [if_neg (fun q => by omega)]
theorem shf5_at {p : Nat → Int32} {j k : Nat} (hj : j < 3) (hk : k < 3463) : shf5 p 10389 (3463 * j + k) = p (3463 * (j + 1) + k) := by
  unfold shf5
  rw [if_pos (by omega), show 3463 * j + k + 3463 = 3463 * (j + 1) + k by omega]
