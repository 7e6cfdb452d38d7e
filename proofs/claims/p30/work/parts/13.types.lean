/-! what the mirrors are written in -/
abbrev cl (i : Int32) : Nat := i.toNatClampNeg
abbrev ix (i : Int32) (n : Nat) : Prop := ¬ (i < 0 ∨ n ≤ i.toNatClampNeg)
abbrev n32 (r : UInt32) : Prop := r &&& 0x7fffffff ≤ 0x7f800000
def us (x y : Int32) : Int32 := (x.toUInt32 >>> (y.toUInt32 &&& Int32.toUInt32 31)).toInt32
def aI (q : Nat) (i v : Int32) (M : Mem) : Mem := sR q (upd (gR M q) i.toNatClampNeg v) M
def cI (q1 : Nat) (sp : Int32) (q2 : Nat) (dp n : Int32) (M : Mem) : Mem := sR q2 (va_cpy (gR M q1) (gR M q2) sp.toNatClampNeg dp.toNatClampNeg n.toNatClampNeg) M
def on {α : Type} (r : Option Nat) (n : α) (f : Nat → α) : α := match r with
  | none => n
  | some x => f x
theorem on_none {α : Type} {r : Option Nat} {n : α} {f : Nat → α} (h : r = none) : on r n f = n := by rw [h]; rfl
theorem on_some {α : Type} {r : Option Nat} {n : α} {f : Nat → α} {x : Nat} (h : r = some x) : on r n f = f x := by rw [h]; rfl
/-! kinds of codes -/
def kd2 (r : Nat) : Nat := if r = 0 then 2 else if r = 1 then 8 else if r = 2 then 7 else if r < 27 then (if r % 3 = 0 then 1 else 6) else if (r - 27) % 5 = 0 then 0 else 6
def rl2 (r : Nat) : Nat := if r < 27 then (if r % 3 = 1 then 160 else 100) else if (r - 27) % 5 = 1 then 40 else if (r - 27) % 5 = 2 then 40 else if (r - 27) % 5 = 3 then 41 else 205
theorem kd_ge {c : Nat} (h : 8 ≤ c) : kd c = kd2 (c % 64) := by
  unfold kd kd2
  rw [if_neg (by omega), if_neg (by omega), if_neg (by omega), if_neg (by omega), if_neg (by omega), if_neg (by omega), if_neg (by omega), if_neg (by omega)]
theorem rl_ge {c : Nat} (h : 8 ≤ c) : rl c = rl2 (c % 64) := by
  unfold rl rl2
  rw [if_neg (by omega), if_neg (by omega), if_neg (by omega)]
theorem inL_iff {G : Nat → Bool} {c : Nat} : inL G c = true ↔ c < 3 ∨ (c < 6 ∧ G 7 = true) ∨ (64 ≤ c ∧ c < 384 ∧ c % 64 < 47 ∧ (c < 128 ∨ G (c / 64 - 2) = true)) := by
  unfold inL
  simp only [Bool.or_eq_true, Bool.and_eq_true, decide_eq_true_eq, and_assoc, or_assoc]
theorem kd_lt {c : Nat} (h : c < 8) : kd c = 3 ∨ kd c = 4 ∨ kd c = 5 ∨ kd c = 6 ∨ kd c = 9 ∨ kd c = 10 ∨ kd c = 11 := (by decide : ∀ c, c < 8 → kd c = 3 ∨ kd c = 4 ∨ kd c = 5 ∨ kd c = 6 ∨ kd c = 9 ∨ kd c = 10 ∨ kd c = 11) c h
theorem TT_hi {G : Nat → Bool} {k c : Nat} (h : TT G k c) (hk : k = 0 ∨ k = 1 ∨ k = 2 ∨ k = 7 ∨ k = 8) : 64 ≤ c ∧ c < 384 ∧ c % 64 < 47 ∧ (c < 128 ∨ G (c / 64 - 2) = true) ∧ kd2 (c % 64) = k := by
  have h8 : ¬ c < 8 := fun h8 => by
    have := kd_lt h8
    have h1 := h.1
    omega
  rcases inL_iff.mp h.2 with h2 | h2 | ⟨a, b, d, e⟩
  · exact absurd (show c < 8 by omega) h8
  · exact absurd (show c < 8 by omega) h8
  · exact ⟨a, b, d, e, by rw [← kd_ge (by omega)]; exact h.1⟩
theorem add_hi {G : Nat → Bool} {c j : Nat} (a : 64 ≤ c) (b : c < 384) (d : c % 64 + j < 47) (e : c < 128 ∨ G (c / 64 - 2) = true) : inL G (c + j) = true ∧ kd (c + j) = kd2 (c % 64 + j) ∧ rl (c + j) = rl2 (c % 64 + j) := by
  have h1 : (c + j) % 64 = c % 64 + j := by omega
  have h2 : (c + j) / 64 = c / 64 := by omega
  refine ⟨inL_iff.mpr (Or.inr (Or.inr ⟨by omega, by omega, by omega, ?_⟩)), by rw [kd_ge (by omega), h1], by rw [rl_ge (by omega), h1]⟩
  rcases e with e | e
  · exact Or.inl (by omega)
  · exact Or.inr (by rw [h2]; exact e)
theorem TR_add {G : Nat → Bool} {k c j n : Nat} (h : TT G k c) (hk : k = 0 ∨ k = 1 ∨ k = 2 ∨ k = 7 ∨ k = 8) (hd : ∀ r, r < 47 → kd2 r = k → r + j < 47 ∧ kd2 (r + j) = 6 ∧ rl2 (r + j) = n) : TR G n (c + j) := by
  obtain ⟨a, b, d, e, f⟩ := TT_hi h hk
  obtain ⟨h1, h2, h3⟩ := hd _ d f
  obtain ⟨x, y, z⟩ := add_hi a b h1 e
  exact ⟨y.trans h2, z.trans h3, x⟩
theorem TT_add {G : Nat → Bool} {k k' c j : Nat} (h : TT G k c) (hk : k = 0 ∨ k = 1 ∨ k = 2 ∨ k = 7 ∨ k = 8) (hd : ∀ r, r < 47 → kd2 r = k → r + j < 47 ∧ kd2 (r + j) = k') : TT G k' (c + j) := by
  obtain ⟨a, b, d, e, f⟩ := TT_hi h hk
  obtain ⟨h1, h2⟩ := hd _ d f
  obtain ⟨x, y, z⟩ := add_hi a b h1 e
  exact ⟨y.trans h2, x⟩
theorem nd_s {G : Nat → Bool} {c : Nat} (h : TT G 1 c) : TR G 160 (c + 1) := TR_add h (by decide) (by decide)
theorem nd_i {G : Nat → Bool} {c : Nat} (h : TT G 1 c) : TR G 100 (c + 2) := TR_add h (by decide) (by decide)
theorem ld_p {G : Nat → Bool} {c : Nat} (h : TT G 0 c) : TR G 40 (c + 1) := TR_add h (by decide) (by decide)
theorem ld_a {G : Nat → Bool} {c : Nat} (h : TT G 0 c) : TR G 40 (c + 2) := TR_add h (by decide) (by decide)
theorem ld_s {G : Nat → Bool} {c : Nat} (h : TT G 0 c) : TR G 41 (c + 3) := TR_add h (by decide) (by decide)
theorem ld_m {G : Nat → Bool} {c : Nat} (h : TT G 0 c) : TR G 205 (c + 4) := TR_add h (by decide) (by decide)
theorem st_n {G : Nat → Bool} {c : Nat} (h : TT G 2 c) : TT G 8 (c + 1) := TT_add h (by decide) (by decide)
theorem st_l {G : Nat → Bool} {c : Nat} (h : TT G 2 c) : TT G 7 (c + 2) := TT_add h (by decide) (by decide)
theorem sk_r {G : Nat → Bool} {c : Nat} (_ : TT G 3 c) : TT G 9 2 := ⟨rfl, rfl⟩
theorem ls_n {G : Nat → Bool} {c : Nat} (_ : TT G 4 c) : TT G 2 64 := ⟨rfl, rfl⟩
theorem ls_p {G : Nat → Bool} {c : Nat} (_ : TT G 4 c) : TT G 3 1 := ⟨rfl, rfl⟩
theorem ix_lt {i : Int32} {n : Nat} (h : ix i n) : i.toNatClampNeg < n := Nat.not_le.mp fun q => h (Or.inr q)
theorem ns_at {G : Nat → Bool} {q : Nat} {i : Int32} (h : TT G 8 q) (hi : ix i 8) : TT G 1 (q + 2 + 3 * i.toNatClampNeg) := by
  have hl := ix_lt hi
  generalize i.toNatClampNeg = j at hl
  have := TT_add (j := 2 + 3 * j) (k' := 1) h (by decide) (by
    intro r hr hk
    have e : r = 1 := (by decide : ∀ r, r < 47 → kd2 r = 8 → r = 1) r hr hk
    subst e
    exact (by decide : ∀ j, j < 8 → 1 + (2 + 3 * j) < 47 ∧ kd2 (1 + (2 + 3 * j)) = 1) j hl)
  rw [Nat.add_assoc]
  exact this
theorem ls_at {G : Nat → Bool} {q : Nat} {i : Int32} (h : TT G 7 q) (hi : ix i 4) : TT G 0 (q + 25 + 5 * i.toNatClampNeg) := by
  have hl := ix_lt hi
  generalize i.toNatClampNeg = j at hl
  have := TT_add (j := 25 + 5 * j) (k' := 0) h (by decide) (by
    intro r hr hk
    have e : r = 2 := (by decide : ∀ r, r < 47 → kd2 r = 7 → r = 2) r hr hk
    subst e
    exact (by decide : ∀ j, j < 4 → 2 + (25 + 5 * j) < 47 ∧ kd2 (2 + (25 + 5 * j)) = 0) j hl)
  rw [Nat.add_assoc]
  exact this

theorem sm_in {G : Nat → Bool} {c : Nat} (h : c < 3) : inL G c = true := inL_iff.mpr (Or.inl h)
/-- the law's rows: ledgers' sizes, what was confirmed, who is down -/
theorem la_in {G : Nat → Bool} {c : Nat} (h7 : G 7 = true) (h : c < 6) : inL G c = true := inL_iff.mpr (Or.inr (Or.inl ⟨h, h7⟩))
theorem la_z {G : Nat → Bool} (h7 : G 7 = true) : TR G 4 3 := ⟨rfl, rfl, la_in h7 (by omega)⟩
theorem la_c {G : Nat → Bool} (h7 : G 7 = true) : TR G 4 4 := ⟨rfl, rfl, la_in h7 (by omega)⟩
theorem la_d {G : Nat → Bool} (h7 : G 7 = true) : TR G 8 5 := ⟨rfl, rfl, la_in h7 (by omega)⟩
