/-! the row well formed; the class's cells as the row says -/
def LI (r : Nat → Int32) (nc l : Nat) : Prop :=
  NN r l ∧ (1 ≤ vf r l 0 ∧ vf r l 0 ≤ 5) ∧ (1 ≤ vf r l 1 ∧ vf r l 1 ≤ vf r l 0) ∧ (1 ≤ vf r l 2 ∧ vf r l 2 ≤ vf r l 1) ∧ vf r l 3 ≤ 2 ∧ vf r l 4 ≤ 40 ∧ (1 ≤ vf r l 6 ∧ vf r l 6 ≤ 41) ∧ vf r l 87 = 0 ∧
  (∀ f, f + 1 < vf r l 6 → vf r l (87 + f) < vf r l (87 + (f + 1))) ∧ vf r l (87 + (vf r l 6 - 1)) ≤ vf r l 4 ∧
  (∀ f p, f < vf r l 6 → p < vf r l 0 → mbf r l f p < nc) ∧ (∀ f p q, f < vf r l 6 → p < q → q < vf r l 0 → mbf r l f p ≠ mbf r l f q) ∧
  (∀ e, e < vf r l 4 → vf r l (47 + e) < 256) ∧ (∀ e, e < vf r l 4 → vf r l (7 + e) ≤ 999) ∧
  (vf r l 3 = 0 → ∀ e, e < vf r l (87 + (vf r l 6 - 1)) → vf r l 2 ≤ pc (vf r l (47 + e))) ∧ ∃ k, k ≤ 40 ∧ r (2131 + 333 * l + 5) = nI k - 1
/-- what a node stores in a cell: nothing, or payload and last confirmed entry -/
def SC (v : Int32) : Prop := v = 0 ∨ ∃ p c : Nat, p ≤ 999 ∧ c ≤ 40 ∧ v = nI (64 * (p + 1) + c)
/-- a request -/
def QC (r : Nat → Int32) (lc : Nat) (v : Int32) : Prop := ∃ l e c p : Nat, l < lc ∧ e < vf r l 4 ∧ c ≤ 40 ∧ p ≤ 999 ∧ v = nI (l + 4 * e + 256 * c + 16384 * p)
def NIv (r : Nat → Int32) (lc n : Nat) : Prop :=
  (r (3 + n) = 0 ∨ r (3 + n) = 1) ∧ (∃ w, w ≤ 100 ∧ r (11 + n) = nI w ∧ (r (3 + n) = 0 → w = 0) ∧ ∀ i, i < w → QC r lc (r (19 + 100 * n + i))) ∧ (∀ k, k < 160 → SC (r (819 + 160 * n + k))) ∧ ∀ l, l < 4 → r (2099 + 4 * n + l) = 0 ∨ r (2099 + 4 * n + l) = 1
def Z0 (r : Nat → Int32) (n : Nat) : Prop := r (3 + n) = 0 ∧ r (11 + n) = 0 ∧ (∀ k, k < 160 → r (819 + 160 * n + k) = 0) ∧ ∀ l, l < 4 → r (2099 + 4 * n + l) = 0
def ZL (r : Nat → Int32) (l : Nat) : Prop := ∀ w, w < 333 → r (2131 + 333 * l + w) = 0
def Inv (r : Nat → Int32) (nc lc : Nat) : Prop := nc ≤ 8 ∧ lc ≤ 4 ∧ r 0 = nI nc ∧ r 1 = nI lc ∧ (∀ n, n < nc → NIv r lc n) ∧ (∀ n, nc ≤ n → n < 8 → Z0 r n) ∧ (∀ l, l < lc → LI r nc l) ∧ ∀ l, lc ≤ l → l < 4 → ZL r l
/-- a parcel's number -/
def pz (l e c p : Nat) : Nat := l * 4194304 + e * 65536 + c * 1024 + p
def stc (l e : Nat) (v : Int32) : Int32 := if v = 0 then -1 else nI (pz l e (cl v % 64) (cl v / 64 - 1))
def rqc (v : Int32) : Int32 := nI (pz (cl v % 4) (cl v / 4 % 64) (cl v / 256 % 64) (cl v / 16384))
def CL (M : Mem) (a : Nat) (r : Nat → Int32) (l : Nat) : Prop :=
  gF M a 0 = nI l ∧ gF M a 1 = r (2131 + 333 * l + 0) ∧ gF M a 2 = r (2131 + 333 * l + 1) ∧ gF M a 3 = r (2131 + 333 * l + 2) ∧ gF M a 4 = r (2131 + 333 * l + 3) ∧ gF M a 5 = r (2131 + 333 * l + 4) ∧ gF M a 6 = r (2131 + 333 * l + 5) ∧ gF M a 7 = r (2131 + 333 * l + 6) ∧
  (∀ e, e < vf r l 4 → e < 40 → gR M (a + 1) e = r (2131 + 333 * l + (7 + e))) ∧ (∀ e, e < vf r l 4 → e < 40 → gR M (a + 2) e = r (2131 + 333 * l + (47 + e))) ∧ (∀ f, f < vf r l 6 → f < 41 → gR M (a + 3) f = r (2131 + 333 * l + (87 + f))) ∧ ∀ f p, f < vf r l 6 → p < vf r l 0 → f < 41 → p < 5 → gR M (a + 4) (5 * f + p) = r (2131 + 333 * l + (128 + 5 * f + p))
def CN (M : Mem) (a : Nat) (r : Nat → Int32) (n : Nat) : Prop :=
  gF M a 0 = r (3 + n) ∧ (∃ m, m < 16 ∧ gF M a 1 = nI m ∧ ∀ l, l < 4 → r (2099 + 4 * n + l) = if m.testBit l then 1 else 0) ∧ gF M a 2 = nI (rW r n 160) ∧ gF M a 3 = r (11 + n) ∧
  (∀ l e, l < 4 → e < 40 → gR M (a + 1) (40 * l + e) = stc l e (r (819 + 160 * n + 40 * l + e))) ∧ ∀ i, i < cl (r (11 + n)) → i < 100 → gR M (a + 2) i = rqc (r (19 + 100 * n + i))
def RC (B : Nat) (r : Nat → Int32) (M : Mem) : Prop := gF M B 0 = r 0 ∧ gF M B 1 = r 1 ∧ gF M B 2 = r 2 ∧ (∀ n, n < cl (r 0) → CN M (B + 3 + 3 * n) r n) ∧ ∀ l, l < cl (r 1) → CL M (B + 27 + 5 * l) r l
/-- the packing -/
theorem pk_l {l : Nat} (h : l < 4) : (nI l &&& 3) <<< (22 &&& 31) = nI (2 ^ 22 * l) := (show ∀ l < 4, (nI l &&& 3) <<< (22 &&& 31) = nI (2 ^ 22 * l) by decide +kernel) l h
theorem pk_e {e : Nat} (h : e < 64) : (nI e &&& 63) <<< (16 &&& 31) = nI (2 ^ 16 * e) := (show ∀ e < 64, (nI e &&& 63) <<< (16 &&& 31) = nI (2 ^ 16 * e) by decide +kernel) e h
theorem pk_c {c : Nat} (h : c < 64) : (nI c &&& 63) <<< (10 &&& 31) = nI (2 ^ 10 * c) := (show ∀ c < 64, (nI c &&& 63) <<< (10 &&& 31) = nI (2 ^ 10 * c) by decide +kernel) c h
theorem pk_p {p : Nat} (h : p < 1024) : nI p &&& 1023 = nI p := (show ∀ p < 1024, nI p &&& 1023 = nI p by decide +kernel) p h
theorem of_pz {l e c p : Nat} (hl : l < 4) (he : e < 64) (hc : c < 64) (hp : p < 1024) : m_X2_of (nI l) (nI e) (nI p) (nI c - 1) = nI (pz l e c p) := by
  unfold m_X2_of
  rw [Int32.sub_add_cancel, pk_l hl, pk_e he, pk_c hc, pk_p hp, or_nI, or_nI, or_nI]
  have h1 : 2 ^ 10 * c + p = 2 ^ 10 * c ||| p := Nat.two_pow_add_eq_or_of_lt (by omega) c
  have h2 : 2 ^ 16 * e + (2 ^ 10 * c + p) = 2 ^ 16 * e ||| (2 ^ 10 * c + p) := Nat.two_pow_add_eq_or_of_lt (by omega) e
  have h3 : 2 ^ 22 * l + (2 ^ 16 * e + (2 ^ 10 * c + p)) = 2 ^ 22 * l ||| (2 ^ 16 * e + (2 ^ 10 * c + p)) := Nat.two_pow_add_eq_or_of_lt (by omega) l
  rw [Nat.or_assoc, Nat.or_assoc, ← h1, ← h2, ← h3]
  unfold pz
  congr 1
  omega
theorem shr_nI {a k : Nat} (ha : a < 2147483648) (hk : k < 32) : nI a >>> (nI k &&& 31) = nI (a / 2 ^ k) := by
  have hk2 : (nI k &&& 31) = nI k := (show ∀ k < 32, (nI k &&& 31) = nI k by decide +kernel) k hk
  rw [hk2]
  have hd : a / 2 ^ k < 2147483648 := Nat.lt_of_le_of_lt (Nat.div_le_self _ _) ha
  refine Int32.toInt_inj.mp ?_
  rw [nI_toInt hd]
  have h1 : (nI a >>> nI k).toInt = (nI a).toInt >>> ((nI k).toBitVec.smod 32).toNat := by
    show ((nI a).toBitVec.sshiftRight' ((nI k).toBitVec.smod 32)).toInt = _
    rw [BitVec.toInt_sshiftRight']
    rfl
  have h2 : ((nI k).toBitVec.smod 32).toNat = k := (show ∀ k < 32, ((nI k).toBitVec.smod 32).toNat = k by decide +kernel) k hk
  rw [h1, h2, nI_toInt ha, Int.shiftRight_eq_div_pow]
  rfl
theorem and_mod {a : Nat} (k : Nat) : nI a &&& nI (2 ^ k - 1) = nI (a % 2 ^ k) := by
  rw [and_nI, Nat.and_two_pow_sub_one_eq_mod]
section PZ
variable {l e c p : Nat}
theorem pz_lt (hl : l < 4) (he : e < 64) (hc : c < 64) (hp : p < 1024) : pz l e c p < 2147483648 := by unfold pz; omega
theorem pz_l (hl : l < 4) (he : e < 64) (hc : c < 64) (hp : p < 1024) : m_X2_ledgerOf (nI (pz l e c p)) = nI l := by
  unfold m_X2_ledgerOf
  rw [show (22 : Int32) = nI 22 from rfl, shr_nI (pz_lt hl he hc hp) (by omega), show (3 : Int32) = nI (2 ^ 2 - 1) from rfl, and_mod]
  congr 1
  unfold pz
  omega
theorem pz_e (hl : l < 4) (he : e < 64) (hc : c < 64) (hp : p < 1024) : m_X2_entryOf (nI (pz l e c p)) = nI e := by
  unfold m_X2_entryOf
  rw [show (16 : Int32) = nI 16 from rfl, shr_nI (pz_lt hl he hc hp) (by omega), show (63 : Int32) = nI (2 ^ 6 - 1) from rfl, and_mod]
  congr 1
  unfold pz
  omega
theorem pz_c (hl : l < 4) (he : e < 64) (hc : c < 64) (hp : p < 1024) : m_X2_confirmedOf (nI (pz l e c p)) = nI c - 1 := by
  unfold m_X2_confirmedOf
  rw [show (10 : Int32) = nI 10 from rfl, shr_nI (pz_lt hl he hc hp) (by omega), show (63 : Int32) = nI (2 ^ 6 - 1) from rfl, and_mod]
  congr 2
  unfold pz
  omega
theorem pz_p (hl : l < 4) (he : e < 64) (hc : c < 64) (hp : p < 1024) : m_X2_payloadOf (nI (pz l e c p)) = nI p := by
  unfold m_X2_payloadOf
  rw [show (1023 : Int32) = nI (2 ^ 10 - 1) from rfl, and_mod]
  congr 1
  unfold pz
  omega
end PZ
