/-! the invariant of the law's loop -/
abbrev pr (M : Mem) (j : Nat) : Nat → Int32 := fun k => gR M 5 (3463 * j + k)
def Num (G : Nat → Bool) (M : Mem) : Prop := ∀ l, l < 4 → gF M (64 + 27 + 5 * l) 0 = nI l ∧ ∀ i, i < 4 → G i = true → gF M (128 + 64 * i + 27 + 5 * l) 0 = nI l
def Past (G : Nat → Bool) (M : Mem) : Prop := ∃ n nx : Nat, n ≤ 4 ∧ nx < 4 ∧ gF M 1 0 = nI n ∧ gF M 1 1 = nI nx ∧ gF M 3 2 = nI n ∧ ∀ j, j < n → G ((nx + 4 - n + j) % 4) = true ∧ ∃ nc lc, Inv (pr M j) nc lc ∧ RC (128 + 64 * ((nx + 4 - n + j) % 4)) (pr M j) M
def Top (G : Nat → Bool) (M : Mem) : Prop := (∃ nc lc, Inv (gR M 4) nc lc ∧ RC 64 (gR M 4) M) ∧ Num G M ∧ Past G M
/-- M' is M but for what the model threw and the law's own rows -/
def Qu (M M' : Mem) : Prop := (∀ c k, c ≠ 3 ∨ k ≠ 3 → gF M' c k = gF M c k) ∧ ∀ c, gR M' c = gR M c
theorem Qu.rf {M : Mem} : Qu M M := ⟨fun _ _ _ => rfl, fun _ => rfl⟩
theorem Qu.tr {M M1 M2 : Mem} (h : Qu M M1) (k : Qu M1 M2) : Qu M M2 := ⟨fun c j hc => (k.1 c j hc).trans (h.1 c j hc), fun c => (k.2 c).trans (h.2 c)⟩
theorem Qu.oL {M M1 : Mem} {x : Int64} (h : Qu M M1) : Qu M (oL x M1) := h
theorem Qu.oD {M M1 : Mem} {x : UInt64} (h : Qu M M1) : Qu M (oD x M1) := h
theorem Qu.sh {M M1 : Mem} {x : Int64} (h : Qu M M1) : Qu M (sh x M1) := h
theorem Qu.s3 {M M1 : Mem} {v : Int32} (h : Qu M M1) : Qu M (sF 3 3 v M1) := ⟨fun c k hc => by
  rw [← h.1 c k hc]
  show up2 M1.1 3 3 v c k = M1.1 c k
  unfold up2
  rw [if_neg (fun q => by omega)], h.2⟩
theorem CN.qu {M M' : Mem} {a n : Nat} {r : Nat → Int32} (ha : 8 ≤ a) (q : Qu M M') (h : CN M a r n) : CN M' a r n := by
  have e : ∀ k, gF M' a k = gF M a k := fun k => q.1 a k (Or.inl (by omega))
  unfold CN
  simp only [e, q.2]
  exact h
theorem CL.qu {M M' : Mem} {a n : Nat} {r : Nat → Int32} (ha : 8 ≤ a) (q : Qu M M') (h : CL M a r n) : CL M' a r n := by
  have e : ∀ k, gF M' a k = gF M a k := fun k => q.1 a k (Or.inl (by omega))
  unfold CL
  simp only [e, q.2]
  exact h
theorem RC.qu {M M' : Mem} {B : Nat} {r : Nat → Int32} (hB : 8 ≤ B) (q : Qu M M') (h : RC B r M) : RC B r M' := by
  have e : ∀ k, gF M' B k = gF M B k := fun k => q.1 B k (Or.inl (by omega))
  exact ⟨(e 0).trans h.1, (e 1).trans h.2.1, (e 2).trans h.2.2.1, fun n hn => (h.2.2.2.1 n hn).qu (by omega) q, fun l hl => (h.2.2.2.2 l hl).qu (by omega) q⟩
theorem Top.qu {G : Nat → Bool} {M M' : Mem} (q : Qu M M') (h : Top G M) : Top G M' := by
  obtain ⟨⟨nc, lc, h1, h2⟩, h3, n, nx, k1, k2, k3, k4, k5, k6⟩ := h
  refine ⟨⟨nc, lc, by rw [q.2]; exact h1, by rw [q.2]; exact h2.qu (by omega) q⟩, fun l hl => ⟨?_, fun i hi hG => ?_⟩, n, nx, k1, k2, ?_, ?_, ?_, fun j hj => ?_⟩
  · rw [q.1 _ _ (Or.inl (by omega))]; exact (h3 l hl).1
  · rw [q.1 _ _ (Or.inl (by omega))]; exact (h3 l hl).2 i hi hG
  · rw [q.1 _ _ (Or.inl (by omega))]; exact k3
  · rw [q.1 _ _ (Or.inl (by omega))]; exact k4
  · rw [q.1 _ _ (Or.inr (by omega))]; exact k5
  · obtain ⟨g1, nc, lc, g2, g3⟩ := k6 j hj
    have e : pr M' j = pr M j := by
      funext k
      show gR M' 5 _ = gR M 5 _
      rw [q.2]
    exact ⟨g1, nc, lc, by rw [e]; exact g2, by rw [e]; exact g3.qu (by omega) q⟩
theorem ck_1 {α : Type} {n : Nat} {x : Option α} (h : 1 < n) : ck (ix 1 n) x = x := ck_ix (k := 1) h (by omega)
theorem cl_1 : cl 1 = 1 := rfl
/-! arguments -/
theorem arg_of {x : Int32} {n : Nat} (hn : n ≤ 4096) : (∃ k, k < n ∧ x = nI k) ∨ (x < 0 ∨ nI n ≤ x) := by
  by_cases h0 : x < 0
  · exact Or.inr (Or.inl h0)
  · obtain ⟨j, hj, rfl⟩ := nI_of h0
    by_cases h : j < n
    · exact Or.inl ⟨j, h, rfl⟩
    · exact Or.inr (Or.inr (nI_le (by omega) (by omega)))
theorem in_ok {k n : Nat} (hk : k < n) (hn : n ≤ 4096) : m_X6_in (nI k) 0 (nI n - 1) = 1 := by
  unfold m_X6_in
  rw [if_neg (nI_pos (by omega)), nI_sub1 (by omega), if_neg (nI_nlt (by omega) (by omega))]
theorem toInt_sub1 {n : Nat} (hn : n < 2147483648) : (nI n - 1).toInt = (n : Int) - 1 := by
  rw [Int32.toInt_sub, nI_toInt hn, show (1 : Int32).toInt = 1 from rfl]
  exact Int.bmod_eq_of_le (by omega) (by omega)
theorem in_no {x : Int32} {n : Nat} (hn : n ≤ 4096) (h : x < 0 ∨ nI n ≤ x) : m_X6_in x 0 (nI n - 1) = 0 := by
  unfold m_X6_in
  by_cases h0 : x < 0
  · rw [if_pos h0]
  · rw [if_neg h0, if_pos]
    have h1 := h.resolve_left h0
    rw [Int32.le_iff_toInt_le, nI_toInt (by omega)] at h1
    rw [Int32.lt_iff_toInt_lt, toInt_sub1 (by omega)]
    omega
section ARG
variable {M : Mem} {nc lc n l : Nat} {x : Int32}
theorem isNode_ok (hI : Inv (gR M 4) nc lc) (hn : n < nc) : m_X6_isNode 3 (nI n) M = some 1 := by
  have := hI.1
  unfold m_X6_isNode
  rw [ck_0 (by omega), cl_0, hI.2.2.1, in_ok hn (by omega)]
  exact ck_t (Or.inr rfl)
theorem isNode_no (hI : Inv (gR M 4) nc lc) (hn : x < 0 ∨ nI nc ≤ x) : m_X6_isNode 3 x M = some 0 := by
  have := hI.1
  unfold m_X6_isNode
  rw [ck_0 (by omega), cl_0, hI.2.2.1, in_no (by omega) hn]
  exact ck_t (Or.inl rfl)
theorem isLed_ok (hI : Inv (gR M 4) nc lc) (hl : l < lc) : m_X6_isLedger 3 (nI l) M = some 1 := by
  have := hI.2.1
  unfold m_X6_isLedger
  rw [ck_1 (by omega), cl_1, hI.2.2.2.1, in_ok hl (by omega)]
  exact ck_t (Or.inr rfl)
theorem isLed_no (hI : Inv (gR M 4) nc lc) (hl : x < 0 ∨ nI lc ≤ x) : m_X6_isLedger 3 x M = some 0 := by
  have := hI.2.1
  unfold m_X6_isLedger
  rw [ck_1 (by omega), cl_1, hI.2.2.2.1, in_no (by omega) hl]
  exact ck_t (Or.inl rfl)
theorem exN_ok (hR : RC 64 (gR M 4) M) (hI : Inv (gR M 4) nc lc) (hn : n < nc) : m_X5_existingNode 0 (nI n) M = some (.inl (67 + 3 * n)) := by
  unfold m_X5_existingNode
  rw [node_ok hR hI hn, bind_s]
  rfl
theorem exN_no (hR : RC 64 (gR M 4) M) (hI : Inv (gR M 4) nc lc) (hn : x < 0 ∨ nI nc ≤ x) : m_X5_existingNode 0 x M = some (.inr 1) := by
  unfold m_X5_existingNode
  rw [node_no hR hI hn, bind_s]
  rfl
theorem exL_ok (hR : RC 64 (gR M 4) M) (hI : Inv (gR M 4) nc lc) (hl : l < lc) : m_X5_existingLedger 0 (nI l) M = some (.inl (91 + 5 * l)) := by
  unfold m_X5_existingLedger
  rw [ledger_ok hR hI hl, bind_s]
  rfl
theorem exL_no (hR : RC 64 (gR M 4) M) (hI : Inv (gR M 4) nc lc) (hl : x < 0 ∨ nI lc ≤ x) : m_X5_existingLedger 0 x M = some (.inr 1) := by
  unfold m_X5_existingLedger
  rw [ledger_no hR hI hl, bind_s]
  rfl
theorem fine1 {y : Int32} : m_X6_isFine 3 0 y M = (0, sF 3 3 1 M) := by
  unfold m_X6_isFine
  rw [if_pos rfl]
  unfold m_X6_isFine_b18
  rw [gF_self, if_neg (by decide)]
theorem fine2 : m_X6_isFine 3 1 0 M = (0, sF 3 3 2 M) := by
  unfold m_X6_isFine
  rw [if_neg (by decide), if_pos rfl]
  unfold m_X6_isFine_b18
  rw [gF_self, if_neg (by decide)]
theorem fine0 : m_X6_isFine 3 1 1 M = (1, sF 3 3 0 M) := by
  unfold m_X6_isFine
  rw [if_neg (by decide), if_neg (by decide)]
  unfold m_X6_isFine_b18
  rw [gF_self, if_pos rfl]
theorem go_oL {x : Int64} : go (oL x M) 0 = x := by
  show vp_updL (go M) 0 x 0 = x
  simp [vp_updL]
end ARG

/-! the shape of a case: the small method's answer against the reference's -/
section SHAPE
variable {G G1 : Nat → Bool} {M M1 M2 : Mem} {x : Int32}
/-- both throw the same -/
theorem case_t {w : Option (Int32 × (Nat → Bool) × Mem)} {z : Mem → Option (Int32 × Mem)} {k v : Int32} (hw : w = some (k, G, M)) (hz : z M = some (v, M1)) (hk : gF M1 3 3 = k) (h0 : k ≠ 0) : (Option.bind w fun w => Option.bind (z w.2.2) fun z => if m_X6_thrown 3 z.2 = w.1 then (if w.1 = 0 then (if go z.2 0 = z.1.toInt64 then some (w.2.1, z.2) else none) else some (w.2.1, z.2)) else none) = some (G, M1) := by
  rw [hw, bind_s]
  show Option.bind (z M) _ = _
  rw [hz, bind_s]
  show (if gF M1 3 3 = k then (if k = 0 then _ else some (G, M1)) else none) = _
  rw [if_pos hk, if_neg h0]
/-- both answer the same -/
theorem case_i {w : Option (Int32 × (Nat → Bool) × Mem)} {z : Mem → Option (Int32 × Mem)} {v : Int32} (hw : w = some (0, G1, M)) (hz : z M = some (v, M1)) (hk : gF M1 3 3 = 0) (hv : go M1 0 = v.toInt64) : (Option.bind w fun w => Option.bind (z w.2.2) fun z => if m_X6_thrown 3 z.2 = w.1 then (if w.1 = 0 then (if go z.2 0 = z.1.toInt64 then some (w.2.1, z.2) else none) else some (w.2.1, z.2)) else none) = some (G1, M1) := by
  rw [hw, bind_s]
  show Option.bind (z M) _ = _
  rw [hz, bind_s]
  show (if gF M1 3 3 = 0 then (if (0 : Int32) = 0 then (if go M1 0 = v.toInt64 then some (G1, M1) else none) else some (G1, M1)) else none) = _
  rw [if_pos hk, if_pos rfl, if_pos hv]
end SHAPE
/-- inboxLength -/
theorem done_5 {G : Nat → Bool} {M : Mem} {x : Int32} (h : Top G M) : ∃ G' M', s_5 x G M = some (G', M') ∧ Top G' M' := by
  obtain ⟨⟨nc, lc, hI, hR⟩, -⟩ := id h
  have h8 := hI.1
  unfold s_5
  rcases arg_of (x := x) (n := nc) (by omega) with ⟨n, hn, rfl⟩ | hx
  · refine ⟨G, sF 3 3 0 (oL (gR M 4 (11 + n)).toInt64 M), case_i (z := m_X6_inboxLength 3 (nI n)) (M := oL (gR M 4 (11 + n)).toInt64 M) (v := gR M 4 (11 + n)) ?_ ?_ gF_self go_oL, h.qu (Qu.rf.oL.s3)⟩
    · unfold m_L_inboxLength m_X5_inboxLength
      rw [exN_ok hR hI hn, bind_s]
      show some (0, G, oL (gF M (67 + 3 * n) 3).toInt64 M) = _
      rw [show gF M (67 + 3 * n) 3 = gR M 4 (11 + n) from (rc_n hR hI hn).2.2.2.1]
    · unfold m_X6_inboxLength
      rw [isNode_ok (M := oL (gR M 4 (11 + n)).toInt64 M) hI hn, bind_s, fine0, if_neg (fun q => absurd (show (1 : Int32) = 0 from q) (by decide)), Ln 11, nI_add, ck_ix (by omega) (by omega), cl_nI (by omega)]
      rfl
  · refine ⟨G, sF 3 3 1 M, case_t (z := m_X6_inboxLength 3 x) (M := M) (v := 0) (k := 1) ?_ ?_ gF_self (by decide), h.qu (Qu.rf.s3)⟩
    · unfold m_L_inboxLength m_X5_inboxLength
      rw [exN_no hR hI hx, bind_s]
      rfl
    · unfold m_X6_inboxLength
      rw [isNode_no hI hx, bind_s, fine1, if_pos rfl]
