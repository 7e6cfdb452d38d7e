/-! a state takes another one over -/
theorem node_of {M : Mem} {B nc n : Nat} (h0 : gF M B 0 = nI nc) (h8 : nc ≤ 8) (h : n < nc) : m_X3_node B (nI n) M = some (some (B + 3 + 3 * n)) := by
  unfold m_X3_node
  rw [h0, if_neg (nI_pos (by omega)), if_neg (nI_ge h (by omega)), Ln 8, if_pos (nI_lt (by omega) (by omega)), ck_ix (by omega) (by omega), cl_nI (by omega)]
theorem ledger_of {M : Mem} {B lc l : Nat} (h0 : gF M B 1 = nI lc) (h8 : lc ≤ 4) (h : l < lc) : m_X3_ledger B (nI l) M = some (some (B + 27 + 5 * l)) := by
  unfold m_X3_ledger
  rw [h0, if_neg (nI_pos (by omega)), if_neg (nI_ge h (by omega)), Ln 4, if_pos (nI_lt (by omega) (by omega)), ck_ix (by omega) (by omega), cl_nI (by omega)]
theorem RC.fb {a b nc lc : Nat} {r : Nat → Int32} {M N : Mem} (hI : Inv r nc lc) (hb : b % 64 = 0) (hab : a / 64 ≠ b / 64) (h : RC b r M) (hf : Fb a M N) : RC b r N := RC.ext hI (fun _ _ => rfl) (fun c h1 h2 => hf.1 c (by omega)) h
def Nm (a : Nat) (M : Mem) : Prop := ∀ l, l < 4 → gF M (a + 27 + 5 * l) 0 = nI l
section TAKE
variable {M : Mem} {a b nc lc : Nat} {r : Nat → Int32}
theorem take_l (hI : Inv r nc lc) (ha : a % 64 = 0) (hb : b % 64 = 0) (hab : a / 64 ≠ b / 64) (hR : RC b r M) : ∀ (d k g : Nat) (N : Mem), k + d = lc → d < g → gF N a 0 = r 0 → gF N a 1 = r 1 → gF N a 2 = r 2 → (∀ n, n < nc → CN N (a + 3 + 3 * n) r n) → (∀ l, l < k → CL N (a + 27 + 5 * l) r l) → Nm a N → Fb a M N → ∃ M', m_X3_takeOver_L70 a b g (nI k) N = some M' ∧ RC a r M' ∧ Nm a M' ∧ Fb a M M' := by
  have h8 := hI.1
  have h4 := hI.2.1
  have hc0 : cl (r 0) = nc := by rw [hI.2.2.1, cl_nI (by omega)]
  have hc1 : cl (r 1) = lc := by rw [hI.2.2.2.1, cl_nI (by omega)]
  intro d
  induction d with
  | zero =>
    intro k g N h1 h2 f0 f1 f2 hn hl hm hf
    obtain ⟨g, rfl⟩ : ∃ k, g = k + 1 := ⟨g - 1, by omega⟩
    rw [m_X3_takeOver_L70_s, f1, hI.2.2.2.1, if_pos (nI_le (by omega) (by omega))]
    exact ⟨N, rfl, ⟨f0, f1, f2, fun n hn' => hn n (by omega), fun l hl' => hl l (by omega)⟩, hm, hf⟩
  | succ d ih =>
    intro k g N h1 h2 f0 f1 f2 hn hl hm hf
    obtain ⟨g, rfl⟩ : ∃ k, g = k + 1 := ⟨g - 1, by omega⟩
    have hk : k < lc := by omega
    have hRb := hR.fb hI hb hab hf
    rw [m_X3_takeOver_L70_s, f1, hI.2.2.2.1, if_neg (nI_ge (by omega) (by omega)), ledger_ok hRb hI hk, bind_s]
    show ∃ M', Option.bind (m_X3_ledger a (nI k) N) _ = some M' ∧ _
    rw [ledger_of (f1.trans hI.2.2.2.1) h4 hk, bind_s]
    obtain ⟨N1, e1, c1, c2, c3⟩ := copyL_ok (M := N) (a := a + 27 + 5 * k) (b := b + 27 + 5 * k) (nc := nc) (by omega) (by omega) (by omega) (rc_l hRb hI hk) (hm k (by omega))
    show ∃ M', Option.bind (m_X0_copyFrom (a + 27 + 5 * k) (b + 27 + 5 * k) N) _ = some M' ∧ _
    rw [e1, bind_s, nI_1]
    have eA := c2 a (by omega)
    refine ih (k + 1) g N1 (by omega) (by omega) (by rw [eA.1]; exact f0) (by rw [eA.1]; exact f1) (by rw [eA.1]; exact f2) (fun n hn' => ?_) (fun l hl' => ?_) (fun l hl' => ?_) (hf.tr (c3 a ha (by omega) (by omega)))
    · exact (hn n hn').congr (by omega) (fun c h1 h2 => c2 c (by omega)) (fun _ _ => rfl)
    · by_cases hq : l = k
      · rw [hq]; exact c1
      · exact (hl l (by omega)).congr (by omega) (fun c h1 h2 => c2 c (by omega)) (fun _ _ => rfl)
    · by_cases hq : l = k
      · rw [hq]; exact c1.1
      · rw [(c2 (a + 27 + 5 * l) (by omega)).1]; exact hm l hl'
theorem take_n (hI : Inv r nc lc) (ha : a % 64 = 0) (hb : b % 64 = 0) (hab : a / 64 ≠ b / 64) (hR : RC b r M) : ∀ (d k g : Nat) (N : Mem), k + d = nc → d < g → gF N a 0 = r 0 → gF N a 1 = r 1 → gF N a 2 = r 2 → (∀ n, n < k → CN N (a + 3 + 3 * n) r n) → Nm a N → Fb a M N → ∃ M', m_X3_takeOver_L26 a b g (nI k) N = some M' ∧ RC a r M' ∧ Nm a M' ∧ Fb a M M' := by
  have h8 := hI.1
  have h4 := hI.2.1
  intro d
  induction d with
  | zero =>
    intro k g N h1 h2 f0 f1 f2 hn hm hf
    obtain ⟨g, rfl⟩ : ∃ k, g = k + 1 := ⟨g - 1, by omega⟩
    rw [m_X3_takeOver_L26_s, f0, hI.2.2.1, if_pos (nI_le (by omega) (by omega))]
    exact take_l hI ha hb hab hR lc 0 fuel N (by omega) (by unfold fuel; omega) f0 f1 f2 (fun n hn' => hn n (by omega)) (fun l hl => absurd hl (Nat.not_lt_zero l)) hm hf
  | succ d ih =>
    intro k g N h1 h2 f0 f1 f2 hn hm hf
    obtain ⟨g, rfl⟩ : ∃ k, g = k + 1 := ⟨g - 1, by omega⟩
    have hk : k < nc := by omega
    have hRb := hR.fb hI hb hab hf
    rw [m_X3_takeOver_L26_s, f0, hI.2.2.1, if_neg (nI_ge (by omega) (by omega)), node_ok hRb hI hk, bind_s]
    show ∃ M', Option.bind (m_X3_node a (nI k) N) _ = some M' ∧ _
    rw [node_of (f0.trans hI.2.2.1) h8 hk, bind_s]
    obtain ⟨N1, e1, c1, c2, c3⟩ := copyN_ok (M := N) (a := a + 3 + 3 * k) (b := b + 3 + 3 * k) (by omega) (by omega) (by omega) (by omega) (rc_n hRb hI hk) (inv_n hI hk)
    show ∃ M', Option.bind (m_X1_copyFrom (a + 3 + 3 * k) (b + 3 + 3 * k) N) _ = some M' ∧ _
    rw [e1, bind_s, nI_1]
    have eA := c2 a (by omega)
    refine ih (k + 1) g N1 (by omega) (by omega) (by rw [eA.1]; exact f0) (by rw [eA.1]; exact f1) (by rw [eA.1]; exact f2) (fun n hn' => ?_) (fun l hl' => ?_) (hf.tr (c3 a ha (by omega) (by omega) (by omega)))
    · by_cases hq : n = k
      · rw [hq]; exact c1
      · exact (hn n (by omega)).congr (by omega) (fun c h1 h2 => c2 c (by omega)) (fun _ _ => rfl)
    · rw [(c2 (a + 27 + 5 * l) (by omega)).1]; exact hm l hl'
theorem take_ok (hI : Inv r nc lc) (ha : a % 64 = 0) (hb : b % 64 = 0) (hab : a / 64 ≠ b / 64) (hR : RC b r M) (hm : Nm a M) : ∃ M', m_X3_takeOver a b M = some M' ∧ RC a r M' ∧ Nm a M' ∧ Fb a M M' := by
  have hne : ∀ (k : Nat) (v : Int32) (N : Mem), gF (sF a k v N) b = gF N b := fun k v N => gF_sF_ne (fun q => hab (by rw [q]))
  unfold m_X3_takeOver
  simp only [hne]
  refine take_n hI ha hb hab hR nc 0 fuel _ (by omega) (by have := hI.1; unfold fuel; omega) ?_ ?_ ?_ (fun n hn => absurd hn (Nat.not_lt_zero n)) (fun l hl => ?_) (((Fb.rf.sF rfl).sF rfl).sF rfl)
  · rw [gF_ne (by decide), gF_ne (by decide), gF_self, hR.1]
  · rw [gF_ne (by decide), gF_self, hR.2.1]
  · rw [gF_self, hR.2.2.1]
  · rw [gF_sF_ne (by omega), gF_sF_ne (by omega), gF_sF_ne (by omega)]
    exact hm l hl
end TAKE
