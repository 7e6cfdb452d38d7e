/-! copies of rows, nodes, ledgers -/
theorem copyRow_ok {M : Mem} {n q1 q2 : Nat} (hn : n < 2147483648) : ∃ f, m_X5_copyRow n q1 n q2 M = some (sR q2 f M) ∧ ∀ i, i < n → f i = gR M q1 i := by
  have hif : (if (Int32.ofNat n) < (Int32.ofNat n) then (Int32.ofNat n) else (Int32.ofNat n)) = nI n := by split <;> rfl
  have h0 : cl 0 = 0 := rfl
  refine ⟨va_cpy (gR M q1) (gR M q2) 0 0 n, ?_, fun i hi => ?_⟩
  · unfold m_X5_copyRow
    rw [hif, ck_t (by decide), ck_t (by decide), ck_t (nI_pos hn), cl_nI hn, h0, ck_t (by omega), ck_t (by omega)]
    unfold cI
    rw [show (nI n).toNatClampNeg = n from cl_nI hn]
    rfl
  · unfold va_cpy
    rw [if_pos ⟨by omega, by omega⟩]
    congr 1
    omega
theorem copyN_ok {M : Mem} {a b n lc : Nat} {r : Nat → Int32} (hab : a ≠ b) (h1 : b + 1 ≠ a + 1) (h2 : b + 2 ≠ a + 1) (hn : n < 8) (hC : CN M b r n) (hI : NIv r lc n) : ∃ M', m_X1_copyFrom a b M = some M' ∧ CN M' a r n ∧ Fc a 2 M M' ∧ ∀ B, B % 64 = 0 → a / 64 = B / 64 → (a + 1) / 64 = B / 64 → (a + 2) / 64 = B / 64 → Fb B M M' := by
  have hb : ∀ (k : Nat) (v : Int32) (N : Mem), gF (sF a k v N) b = gF N b := fun k v N => gF_sF_ne (fun q => hab q.symm)
  unfold m_X1_copyFrom
  simp only [hb]
  obtain ⟨h0, ⟨m, hm, g1, g1'⟩, g2, g3, g4, g5⟩ := hC
  rw [ck_t (by rw [h0]; exact hI.1)]
  obtain ⟨f1, e1, d1⟩ := copyRow_ok (M := sF a 3 (gF M b 3) (sF a 2 (gF M b 2) (sF a 1 (gF M b 1) (sF a 0 (gF M b 0) M)))) (n := 160) (q1 := b + 1) (q2 := a + 1) (by omega)
  rw [e1, bind_s]
  obtain ⟨f2, e2, d2⟩ := copyRow_ok (M := sR (a + 1) f1 (sF a 3 (gF M b 3) (sF a 2 (gF M b 2) (sF a 1 (gF M b 1) (sF a 0 (gF M b 0) M))))) (n := 100) (q1 := b + 2) (q2 := a + 2) (by omega)
  rw [e2, bind_s]
  refine ⟨_, rfl, ⟨?_, ⟨m, hm, ?_, g1'⟩, ?_, ?_, fun l e hl he => ?_, fun i hi h100 => ?_⟩, ?_, ?_⟩
  · rw [gF_sR, gF_sR, gF_ne (by decide), gF_ne (by decide), gF_ne (by decide), gF_self, h0]
  · rw [gF_sR, gF_sR, gF_ne (by decide), gF_ne (by decide), gF_self, g1]
  · rw [gF_sR, gF_sR, gF_ne (by decide), gF_self, g2]
  · rw [gF_sR, gF_sR, gF_self, g3]
  · rw [gR_ne (by omega), gR_self, d1 _ (by omega)]
    exact g4 l e hl he
  · rw [gR_self, d2 _ h100, gR_ne (by omega)]
    exact g5 i hi h100
  · exact (((((Fc.rf.sF (by omega)).sF (by omega)).sF (by omega)).sF (by omega)).sR (by omega)).sR (by omega)
  · intro B hB x0 x1 x2
    exact (((((Fb.rf.sF x0).sF x0).sF x0).sF x0).sR x1).sR x2
theorem copyL_ok {M : Mem} {a b l nc : Nat} {r : Nat → Int32} (hab : a ≠ b) (hd : a + 4 < b ∨ b + 4 < a) (hl : l < 4) (hC : CL M b r l) (ha : gF M a 0 = nI l) : ∃ M', m_X0_copyFrom a b M = some M' ∧ CL M' a r l ∧ Fc a 4 M M' ∧ ∀ B, B % 64 = 0 → a / 64 = B / 64 → (a + 4) / 64 = B / 64 → Fb B M M' := by
  have hb : ∀ (k : Nat) (v : Int32) (N : Mem), gF (sF a k v N) b = gF N b := fun k v N => gF_sF_ne (fun q => hab q.symm)
  unfold m_X0_copyFrom
  simp only [hb]
  obtain ⟨h0, h1, h2, h3, h4, h5, h6, h7, h8, h9, h10, h11⟩ := hC
  obtain ⟨f1, e1, d1⟩ := copyRow_ok (M := sF a 7 (gF M b 7) (sF a 6 (gF M b 6) (sF a 5 (gF M b 5) (sF a 4 (gF M b 4) (sF a 3 (gF M b 3) (sF a 2 (gF M b 2) (sF a 1 (gF M b 1) M))))))) (n := 40) (q1 := b + 1) (q2 := a + 1) (by omega)
  rw [e1, bind_s]
  obtain ⟨f2, e2, d2⟩ := copyRow_ok (M := sR (a + 1) f1 (sF a 7 (gF M b 7) (sF a 6 (gF M b 6) (sF a 5 (gF M b 5) (sF a 4 (gF M b 4) (sF a 3 (gF M b 3) (sF a 2 (gF M b 2) (sF a 1 (gF M b 1) M)))))))) (n := 40) (q1 := b + 2) (q2 := a + 2) (by omega)
  rw [e2, bind_s]
  obtain ⟨f3, e3, d3⟩ := copyRow_ok (M := sR (a + 2) f2 (sR (a + 1) f1 (sF a 7 (gF M b 7) (sF a 6 (gF M b 6) (sF a 5 (gF M b 5) (sF a 4 (gF M b 4) (sF a 3 (gF M b 3) (sF a 2 (gF M b 2) (sF a 1 (gF M b 1) M))))))))) (n := 41) (q1 := b + 3) (q2 := a + 3) (by omega)
  rw [e3, bind_s]
  obtain ⟨f4, e4, d4⟩ := copyRow_ok (M := sR (a + 3) f3 (sR (a + 2) f2 (sR (a + 1) f1 (sF a 7 (gF M b 7) (sF a 6 (gF M b 6) (sF a 5 (gF M b 5) (sF a 4 (gF M b 4) (sF a 3 (gF M b 3) (sF a 2 (gF M b 2) (sF a 1 (gF M b 1) M)))))))))) (n := 205) (q1 := b + 4) (q2 := a + 4) (by omega)
  rw [e4, bind_s]
  have hn : ∀ (k : Nat) (v : Int32) (N : Mem) (j : Nat), j ≠ k → gF (sF a k v N) a j = gF N a j := fun k v N j h => gF_ne h
  refine ⟨_, rfl, ⟨?_, ?_, ?_, ?_, ?_, ?_, ?_, ?_, fun e he h40 => ?_, fun e he h40 => ?_, fun f hf h41 => ?_, fun f p hf hp h41 hp5 => ?_⟩, ?_, ?_⟩
  · rw [gF_sR, gF_sR, gF_sR, gF_sR, hn _ _ _ _ (by decide), hn _ _ _ _ (by decide), hn _ _ _ _ (by decide), hn _ _ _ _ (by decide), hn _ _ _ _ (by decide), hn _ _ _ _ (by decide), hn _ _ _ _ (by decide), ha]
  · rw [gF_sR, gF_sR, gF_sR, gF_sR, hn _ _ _ _ (by decide), hn _ _ _ _ (by decide), hn _ _ _ _ (by decide), hn _ _ _ _ (by decide), hn _ _ _ _ (by decide), hn _ _ _ _ (by decide), gF_self, h1]
  · rw [gF_sR, gF_sR, gF_sR, gF_sR, hn _ _ _ _ (by decide), hn _ _ _ _ (by decide), hn _ _ _ _ (by decide), hn _ _ _ _ (by decide), hn _ _ _ _ (by decide), gF_self, h2]
  · rw [gF_sR, gF_sR, gF_sR, gF_sR, hn _ _ _ _ (by decide), hn _ _ _ _ (by decide), hn _ _ _ _ (by decide), hn _ _ _ _ (by decide), gF_self, h3]
  · rw [gF_sR, gF_sR, gF_sR, gF_sR, hn _ _ _ _ (by decide), hn _ _ _ _ (by decide), hn _ _ _ _ (by decide), gF_self, h4]
  · rw [gF_sR, gF_sR, gF_sR, gF_sR, hn _ _ _ _ (by decide), hn _ _ _ _ (by decide), gF_self, h5]
  · rw [gF_sR, gF_sR, gF_sR, gF_sR, hn _ _ _ _ (by decide), gF_self, h6]
  · rw [gF_sR, gF_sR, gF_sR, gF_sR, gF_self, h7]
  · rw [gR_ne (by omega), gR_ne (by omega), gR_ne (by omega), gR_self, d1 _ (by omega)]
    exact h8 e he h40
  · rw [gR_ne (by omega), gR_ne (by omega), gR_self, d2 _ (by omega), gR_ne (by omega)]
    exact h9 e he h40
  · rw [gR_ne (by omega), gR_self, d3 _ (by omega), gR_ne (by omega), gR_ne (by omega)]
    exact h10 f hf h41
  · rw [gR_self, d4 _ (by omega), gR_ne (by omega), gR_ne (by omega), gR_ne (by omega)]
    exact h11 f p hf hp h41 hp5
  · exact ((((((((((Fc.rf.sF (by omega)).sF (by omega)).sF (by omega)).sF (by omega)).sF (by omega)).sF (by omega)).sF (by omega)).sR (by omega)).sR (by omega)).sR (by omega)).sR (by omega)
  · intro B hB x0 x4
    have hx : ∀ c, a ≤ c → c ≤ a + 4 → c / 64 = B / 64 := fun c h1 h2 => by omega
    exact ((((((((((Fb.rf.sF x0).sF x0).sF x0).sF x0).sF x0).sF x0).sF x0).sR (hx _ (by omega) (by omega))).sR (hx _ (by omega) (by omega))).sR (hx _ (by omega) (by omega))).sR (hx _ (by omega) (by omega))
