/-! PURE PART. Numbers: every index is nI of a Nat -/
theorem cl_nI {k : Nat} (h : k < 2147483648) : cl (nI k) = k := nI_clamp h
theorem ix_nI {k n : Nat} (h : k < n) (hn : k < 2147483648) : ix (nI k) n := fun q => by
  rcases q with q | q
  · exact nI_pos hn q
  · rw [nI_clamp hn] at q
    omega
theorem ck_t {α : Type} {q : Prop} [Decidable q] {k : Option α} (h : q) : ck q k = k := if_pos h
theorem ck_ix {α : Type} {k n : Nat} {x : Option α} (h : k < n) (hn : k < 2147483648) : ck (ix (nI k) n) x = x := ck_t (ix_nI h hn)
theorem nI_mul (a b : Nat) : nI a * nI b = nI (a * b) := (Int32.ofNat_mul a b).symm
theorem nI_sub1 {a : Nat} (h : 1 ≤ a) : nI a - 1 = nI (a - 1) := by
  obtain ⟨b, rfl⟩ : ∃ b, a = b + 1 := ⟨a - 1, by omega⟩
  rw [nI_pred, Nat.add_sub_cancel]
theorem bind_s {α β : Type} {a : α} {f : α → Option β} : Option.bind (some a) f = f a := rfl
theorem aI_nI {q k : Nat} {v : Int32} {M : Mem} (h : k < 2147483648) : aI q (nI k) v M = sR q (upd (gR M q) k v) M := by
  unfold aI
  rw [nI_clamp h]
theorem gR_self {M : Mem} {c : Nat} {r : Nat → Int32} : gR (sR c r M) c = r := va_up_self _ _ _
theorem gR_ne {M : Mem} {c c' : Nat} {r : Nat → Int32} (h : c' ≠ c) : gR (sR c r M) c' = gR M c' := va_up_ne _ _ h
theorem gF_sR {M : Mem} {c : Nat} {r : Nat → Int32} {c' k : Nat} : gF (sR c r M) c' k = gF M c' k := rfl
theorem gR_sF {M : Mem} {c k : Nat} {v : Int32} {c' : Nat} : gR (sF c k v M) c' = gR M c' := rfl
theorem sR_sR {M : Mem} {c : Nat} {r r' : Nat → Int32} : sR c r' (sR c r M) = sR c r' M := by
  unfold sR
  congr 2
  funext x
  unfold va_up
  dsimp only
  split <;> rfl
theorem sR_id {M : Mem} {c : Nat} : sR c (gR M c) M = M := by
  obtain ⟨f, r, t⟩ := M
  unfold sR gR
  congr 2
  funext x
  unfold va_up
  split
  · rename_i h; subst h; rfl
  · rfl
theorem sF_sR {M : Mem} {c k q : Nat} {v : Int32} {r : Nat → Int32} : sR q r (sF c k v M) = sF c k v (sR q r M) := rfl
theorem upd_s {f : Nat → Int32} {i : Nat} {v : Int32} : upd f i v i = v := if_pos rfl
theorem upd_n {f : Nat → Int32} {i j : Nat} {v : Int32} (h : j ≠ i) : upd f i v j = f j := if_neg h
theorem nI_inj {a b : Nat} (ha : a < 2147483648) (hb : b < 2147483648) (h : nI a = nI b) : a = b := (nI_eq ha hb).mp h
theorem nI_ne {a b : Nat} (ha : a < 2147483648) (hb : b < 2147483648) (h : a ≠ b) : nI a ≠ nI b := fun q => h (nI_inj ha hb q)
theorem nI_m1 {a : Nat} (ha : a < 2147483648) : nI a ≠ (-1) := fun q => nI_pos ha (by rw [q]; decide)
theorem nI_div {a b : Nat} (ha : a < 2147483648) (hb : b < 2147483648) : nI a / nI b = nI (a / b) := by
  have hd : a / b < 2147483648 := Nat.lt_of_le_of_lt (Nat.div_le_self a b) ha
  refine Int32.toInt_inj.mp ?_
  rw [Int32.toInt_div, nI_toInt ha, nI_toInt hb, nI_toInt hd]
  have h1 : ((a : Int).tdiv (b : Int)) = ((a / b : Nat) : Int) := by
    rw [Int.ofNat_tdiv]
  rw [h1]
  generalize a / b = q at hd ⊢
  exact Int.bmod_eq_of_le (by omega) (by omega)
theorem nI_rem {a b : Nat} (ha : a < 2147483648) (hb : b < 2147483648) : nI a - nI a / nI b * nI b = nI (a % b) := by
  rw [nI_div ha hb, nI_mul]
  have h := Nat.div_add_mod a b
  have h2 : nI a = nI (a / b * b) + nI (a % b) := by rw [nI_add, Nat.mul_comm, h]
  rw [h2, Int32.add_comm, Int32.add_sub_cancel]
theorem L3 : (3 : Int32) = nI 3 := rfl
theorem Ln (n : Nat) : (OfNat.ofNat n : Int32) = nI n := rfl
