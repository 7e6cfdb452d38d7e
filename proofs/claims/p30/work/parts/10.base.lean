/-! THE MEMORY: int fields by code and slot, int rows by code, the hash, the law's two rows; G says which states of the ring are there. A code names a cell; A says where it lies. -/
abbrev Mem : Type := (Nat → Nat → Int32) × (Nat → Nat → Int32) × Int64 × (Nat → Int64) × (Nat → UInt64)
def up2 (f : Nat → Nat → Int32) (c k : Nat) (v : Int32) : Nat → Nat → Int32 := fun a b => if a = c ∧ b = k then v else f a b
def gF (M : Mem) : Nat → Nat → Int32 := M.1
def gR (M : Mem) : Nat → Nat → Int32 := M.2.1
def gh (M : Mem) : Int64 := M.2.2.1
def go (M : Mem) : Nat → Int64 := M.2.2.2.1
def gd (M : Mem) : Nat → UInt64 := M.2.2.2.2
def sF (c k : Nat) (v : Int32) (M : Mem) : Mem := (up2 M.1 c k v, M.2)
def sR (c : Nat) (r : Nat → Int32) (M : Mem) : Mem := (M.1, va_up M.2.1 c r, M.2.2)
def sh (v : Int64) (M : Mem) : Mem := (M.1, M.2.1, v, M.2.2.2)
def so (f : Nat → Int64) (M : Mem) : Mem := (M.1, M.2.1, M.2.2.1, f, M.2.2.2.2)
def sd (f : Nat → UInt64) (M : Mem) : Mem := (M.1, M.2.1, M.2.2.1, M.2.2.2.1, f)
/-- the kind of a code: 0 ledger, 1 node, 2 state, 3 stack, 4 store, 5 model, 6 int row, 7 ledgers, 8 nodes, 9 ring, 10 long row, 11 double row -/
def kd (c : Nat) : Nat :=
  if c = 0 then 4 else if c = 1 then 3 else if c = 2 then 9 else if c = 3 then 6 else if c = 4 then 6 else if c = 5 then 6 else if c = 6 then 10 else if c = 7 then 11 else
  if c % 64 = 0 then 2 else if c % 64 = 1 then 8 else if c % 64 = 2 then 7 else if c % 64 < 27 then (if c % 64 % 3 = 0 then 1 else 6) else if (c % 64 - 27) % 5 = 0 then 0 else 6
/-- how long an int row is -/
def rl (c : Nat) : Nat :=
  if c = 3 then 4 else if c = 4 then 4 else if c = 5 then 8 else
  if c % 64 < 27 then (if c % 64 % 3 = 1 then 160 else 100) else if (c % 64 - 27) % 5 = 1 then 40 else if (c % 64 - 27) % 5 = 2 then 40 else if (c % 64 - 27) % 5 = 3 then 41 else 205
/-- the codes that are there -/
def inL (G : Nat → Bool) (c : Nat) : Bool := decide (c < 3) || (decide (c < 6) && G 7) || (decide (64 ≤ c) && decide (c < 384) && decide (c % 64 < 47) && (decide (c < 128) || G (c / 64 - 2)))
def Lc (G : Nat → Bool) : List Nat := (List.range 384).filter (inL G)
abbrev va_refs (f : Nat → Option Nat) : (Nat → Int32) ⊕ (Nat → Int64) ⊕ (Nat → UInt32) ⊕ (Nat → UInt64) ⊕ (Nat → Option Nat) := .inr (.inr (.inr (.inr f)))
abbrev c0L (A : Nat → Nat) (M : Mem) (c : Nat) : List Value := [.int (gF M c 0), .int (gF M c 1), .int (gF M c 2), .int (gF M c 3), .int (gF M c 4), .int (gF M c 5), .int (gF M c 6), .int (gF M c 7), .ref (A (c + 1)), .ref (A (c + 2)), .ref (A (c + 3)), .ref (A (c + 4))]
abbrev c1L (A : Nat → Nat) (M : Mem) (c : Nat) : List Value := [.int (gF M c 0), .int (gF M c 1), .int (gF M c 2), .int (gF M c 3), .ref (A (c + 1)), .ref (A (c + 2))]
abbrev c2L (A : Nat → Nat) (M : Mem) (c : Nat) : List Value := [.int (gF M c 0), .int (gF M c 1), .int (gF M c 2), .ref (A (c + 1)), .ref (A (c + 2))]
abbrev c3L (A : Nat → Nat) (M : Mem) (c : Nat) : List Value := [.int (gF M c 0), .int (gF M c 1), .ref (A 2)]
abbrev c4L (A : Nat → Nat) : List Value := [.ref (A 64), .ref (A 1)]
abbrev c5L (A : Nat → Nat) (M : Mem) (c : Nat) : List Value := [.ref (A 4), .ref (A 5), .int (gF M c 2), .int (gF M c 3), .long (gh M)]
def cont (A : Nat → Nat) (cy : Nat → ClassId) (G : Nat → Bool) (M : Mem) (c : Nat) : va_E :=
  if kd c = 0 then .inr (0, c0L A M c) else if kd c = 1 then .inr (1, c1L A M c) else if kd c = 2 then .inr (2, c2L A M c) else if kd c = 3 then .inr (3, c3L A M c) else if kd c = 4 then .inr (4, c4L A) else if kd c = 5 then .inr (5, c5L A M c)
  else if kd c = 6 then .inl (cy 0, rl c, .inl (gR M c)) else if kd c = 7 then .inl (cy 1, 4, va_refs (fun l => if l < 4 then some (A (c + 25 + 5 * l)) else none)) else if kd c = 8 then .inl (cy 2, 8, va_refs (fun j => if j < 8 then some (A (c + 2 + 3 * j)) else none))
  else if kd c = 9 then .inl (cy 3, 4, va_refs (fun i => if G i then some (A (128 + 64 * i)) else none)) else if kd c = 10 then .inl (cy 4, 1, .inr (.inl (go M))) else .inl (cy 5, 1, .inr (.inr (.inr (.inl (gd M)))))
def wl (A : Nat → Nat) (cy : Nat → ClassId) (G : Nat → Bool) (M : Mem) : va_W := (Lc G).map (fun c => (A c, cont A cy G M c))
theorem mem_Lc {G : Nat → Bool} {c : Nat} : c ∈ Lc G ↔ inL G c = true := by
  unfold Lc
  rw [List.mem_filter, List.mem_range]
  constructor
  · exact fun h => h.2
  · intro h
    refine ⟨?_, h⟩
    unfold inL at h
    simp only [Bool.or_eq_true, Bool.and_eq_true, decide_eq_true_eq] at h
    rcases h with (h | h) | h <;> omega
theorem wl_get {A : Nat → Nat} {cy : Nat → ClassId} {G : Nat → Bool} {M : Mem} {c : Nat} (h : inL G c = true) : ∃ k : Nat, (wl A cy G M)[k]? = some (A c, cont A cy G M c) := by
  apply List.getElem?_of_mem
  exact List.mem_map.mpr ⟨c, mem_Lc.mpr h, rfl⟩
theorem wl_at {A : Nat → Nat} {cy : Nat → ClassId} {G : Nat → Bool} {M : Mem} {k : Nat} {q : Nat × va_E} (h : (wl A cy G M)[k]? = some q) : ∃ c, (Lc G)[k]? = some c ∧ inL G c = true ∧ q = (A c, cont A cy G M c) := by
  unfold wl at h
  rw [List.getElem?_map] at h
  cases hb : (Lc G)[k]? with
  | none => rw [hb] at h; cases h
  | some b =>
    rw [hb] at h
    exact ⟨b, rfl, mem_Lc.mp (List.mem_of_getElem? hb), (Option.some.inj h).symm⟩
theorem wl_inj {As : Nat → Prop} {A : Nat → Nat} {cy : Nat → ClassId} {G : Nat → Bool} {M : Mem} (hD : va_D As (wl A cy G M)) {i j a b : Nat} (hi : (Lc G)[i]? = some a) (hj : (Lc G)[j]? = some b) (h : A a = A b) : i = j := by
  refine hD.1 i j (A a, cont A cy G M a) (A b, cont A cy G M b) ?_ ?_ h
  · unfold wl; rw [List.getElem?_map, hi]; rfl
  · unfold wl; rw [List.getElem?_map, hj]; rfl
theorem wl_set {As : Nat → Prop} {A : Nat → Nat} {cy : Nat → ClassId} {G : Nat → Bool} {M M' : Mem} {c k : Nat} {x e : va_E} (hD : va_D As (wl A cy G M)) (h : inL G c = true) (hk : (wl A cy G M)[k]? = some (A c, x)) (hc : cont A cy G M' c = e) (ho : ∀ c', c' ≠ c → cont A cy G M' c' = cont A cy G M c') : (wl A cy G M).set k (A c, e) = wl A cy G M' := by
  have hl := (List.getElem?_eq_some_iff.mp hk).1
  obtain ⟨b, hb, -, hq⟩ := wl_at hk
  obtain ⟨i, hi⟩ := List.getElem?_of_mem (mem_Lc.mpr h)
  have hki : k = i := wl_inj hD hb hi (congrArg Prod.fst hq).symm
  subst hki
  have hbc : b = c := Option.some.inj (hb.symm.trans hi)
  subst hbc
  apply List.ext_getElem?
  intro j
  by_cases hj : j = k
  · subst hj
    rw [List.getElem?_set_self hl]
    unfold wl
    rw [List.getElem?_map, hb]
    show _ = some (A b, cont A cy G M' b)
    rw [hc]
  · rw [List.getElem?_set_ne (Ne.symm hj)]
    unfold wl
    rw [List.getElem?_map, List.getElem?_map]
    cases hd : (Lc G)[j]? with
    | none => rfl
    | some d =>
      have hdb : d ≠ b := by
        intro e1
        subst e1
        exact hj (wl_inj hD hd hb rfl)
      show some (A d, cont A cy G M d) = some (A d, cont A cy G M' d)
      rw [ho d hdb]
/-- a code of a kind that is there -/
def TT (G : Nat → Bool) (k c : Nat) : Prop := kd c = k ∧ inL G c = true
def TR (G : Nat → Bool) (n c : Nat) : Prop := kd c = 6 ∧ rl c = n ∧ inL G c = true
theorem cont_0 {A : Nat → Nat} {cy : Nat → ClassId} {G : Nat → Bool} {M : Mem} {c : Nat} (h : kd c = 0) : cont A cy G M c = .inr (0, c0L A M c) := by unfold cont; rw [if_pos h]
theorem cont_1 {A : Nat → Nat} {cy : Nat → ClassId} {G : Nat → Bool} {M : Mem} {c : Nat} (h : kd c = 1) : cont A cy G M c = .inr (1, c1L A M c) := by unfold cont; rw [h]; rfl
theorem cont_2 {A : Nat → Nat} {cy : Nat → ClassId} {G : Nat → Bool} {M : Mem} {c : Nat} (h : kd c = 2) : cont A cy G M c = .inr (2, c2L A M c) := by unfold cont; rw [h]; rfl
theorem cont_3 {A : Nat → Nat} {cy : Nat → ClassId} {G : Nat → Bool} {M : Mem} {c : Nat} (h : kd c = 3) : cont A cy G M c = .inr (3, c3L A M c) := by unfold cont; rw [h]; rfl
theorem cont_4 {A : Nat → Nat} {cy : Nat → ClassId} {G : Nat → Bool} {M : Mem} {c : Nat} (h : kd c = 4) : cont A cy G M c = .inr (4, c4L A) := by unfold cont; rw [h]; rfl
theorem cont_5 {A : Nat → Nat} {cy : Nat → ClassId} {G : Nat → Bool} {M : Mem} {c : Nat} (h : kd c = 5) : cont A cy G M c = .inr (5, c5L A M c) := by unfold cont; rw [h]; rfl
theorem cont_6 {A : Nat → Nat} {cy : Nat → ClassId} {G : Nat → Bool} {M : Mem} {c : Nat} (h : kd c = 6) : cont A cy G M c = .inl (cy 0, rl c, .inl (gR M c)) := by unfold cont; rw [h]; rfl
theorem cont_7 {A : Nat → Nat} {cy : Nat → ClassId} {G : Nat → Bool} {M : Mem} {c : Nat} (h : kd c = 7) : cont A cy G M c = .inl (cy 1, 4, va_refs (fun l => if l < 4 then some (A (c + 25 + 5 * l)) else none)) := by unfold cont; rw [h]; rfl
theorem cont_8 {A : Nat → Nat} {cy : Nat → ClassId} {G : Nat → Bool} {M : Mem} {c : Nat} (h : kd c = 8) : cont A cy G M c = .inl (cy 2, 8, va_refs (fun j => if j < 8 then some (A (c + 2 + 3 * j)) else none)) := by unfold cont; rw [h]; rfl
theorem cont_9 {A : Nat → Nat} {cy : Nat → ClassId} {G : Nat → Bool} {M : Mem} {c : Nat} (h : kd c = 9) : cont A cy G M c = .inl (cy 3, 4, va_refs (fun i => if G i then some (A (128 + 64 * i)) else none)) := by unfold cont; rw [h]; rfl
theorem cont_10 {A : Nat → Nat} {cy : Nat → ClassId} {G : Nat → Bool} {M : Mem} {c : Nat} (h : kd c = 10) : cont A cy G M c = .inl (cy 4, 1, .inr (.inl (go M))) := by unfold cont; rw [h]; rfl
theorem cont_11 {A : Nat → Nat} {cy : Nat → ClassId} {G : Nat → Bool} {M : Mem} {c : Nat} (h : kd c = 11) : cont A cy G M c = .inl (cy 5, 1, .inr (.inr (.inr (.inl (gd M))))) := by unfold cont; rw [h]; rfl
theorem cont_sF {A : Nat → Nat} {cy : Nat → ClassId} {G : Nat → Bool} {M : Mem} {c k : Nat} {v : Int32} {c' : Nat} (h : c' ≠ c) : cont A cy G (sF c k v M) c' = cont A cy G M c' := by
  have e : ∀ j, gF (sF c k v M) c' j = gF M c' j := fun j => by simp [gF, sF, up2, h]
  unfold cont c0L c1L c2L c3L c5L
  simp only [e]
  rfl
theorem cont_sR {A : Nat → Nat} {cy : Nat → ClassId} {G : Nat → Bool} {M : Mem} {c : Nat} {r : Nat → Int32} {c' : Nat} (h : c' ≠ c) : cont A cy G (sR c r M) c' = cont A cy G M c' := by
  have e : gR (sR c r M) c' = gR M c' := by simp [gR, sR, va_up, h]
  unfold cont c0L c1L c2L c3L c5L
  simp only [e]
  rfl
theorem cont_sh {A : Nat → Nat} {cy : Nat → ClassId} {G : Nat → Bool} {M : Mem} {v : Int64} {c' : Nat} (h : kd c' ≠ 5) : cont A cy G (sh v M) c' = cont A cy G M c' := by
  unfold cont
  rw [if_neg h, if_neg h]
  rfl
theorem cont_so {A : Nat → Nat} {cy : Nat → ClassId} {G : Nat → Bool} {M : Mem} {f : Nat → Int64} {c' : Nat} (h : kd c' ≠ 10) : cont A cy G (so f M) c' = cont A cy G M c' := by
  unfold cont
  rw [if_neg h, if_neg h]
  rfl
theorem cont_sd {A : Nat → Nat} {cy : Nat → ClassId} {G : Nat → Bool} {M : Mem} {f : Nat → UInt64} {c' : Nat} (h : kd c' < 11) : cont A cy G (sd f M) c' = cont A cy G M c' := by
  have h2 : kd c' = 0 ∨ kd c' = 1 ∨ kd c' = 2 ∨ kd c' = 3 ∨ kd c' = 4 ∨ kd c' = 5 ∨ kd c' = 6 ∨ kd c' = 7 ∨ kd c' = 8 ∨ kd c' = 9 ∨ kd c' = 10 := by omega
  unfold cont
  rcases h2 with h2 | h2 | h2 | h2 | h2 | h2 | h2 | h2 | h2 | h2 | h2 <;> (rw [h2]; rfl)
theorem gF_self {M : Mem} {c k : Nat} {v : Int32} : gF (sF c k v M) c k = v := by simp [gF, sF, up2]
theorem gF_ne {M : Mem} {c k : Nat} {v : Int32} {k' : Nat} (h : k' ≠ k) : gF (sF c k v M) c k' = gF M c k' := by simp [gF, sF, up2, h]
/-- the world in the heap, apart, and what else stays -/
def WD (D : va_G) (cy : Nat → ClassId) (As : Nat → Prop) (A : Nat → Nat) (H0 : Heap) (G : Nat → Bool) (M : Mem) (H : Heap) (locs : List Loc) : Prop := va_P D vwCl (wl A cy G M) H ∧ va_D As (wl A cy G M) ∧ va_S As H0 H locs
abbrev tyK (cy : Nat → ClassId) : List (ClassId × FieldType) := [(cy 0, .int), (cy 1, .object RX0), (cy 2, .object RX1), (cy 3, .object RX3)]
/-- the nest's links, and the classes of the arrays of references -/
def NW (U : State) : Prop := va_Nw (.methodLinkNest RX5 18 yX4_init RX5) U ∧ va_Nw (.methodLinkNest RX0 53 yX5_copyRow RX5) U ∧ va_Nw (.methodLinkNest RX0 70 yX5_contains RX5) U ∧ va_Nw (.methodLinkNest RX1 38 yX5_copyRow RX5) U ∧ va_Nw (.methodLinkNest RX1 42 yX5_contains RX5) U ∧ va_Nw (.methodLinkNest RX3 23 yX1_init RX5) U ∧ va_Nw (.methodLinkNest RX3 79 yX5_contains RX5) U ∧ va_AO RX0 U ∧ va_AO RX1 U ∧ va_AO RX3 U
theorem NW.same {u U : State} (h : u.vm = U.vm) (n : NW u) : NW U := by
  obtain ⟨a, b, c, d, e, f, g, i, j, k⟩ := n
  exact ⟨a.same rfl h, b.same rfl h, c.same rfl h, d.same rfl h, e.same rfl h, f.same rfl h, g.same rfl h, i.moved (by rw [h]; exact Vm.Alike.refl _), j.moved (by rw [h]; exact Vm.Alike.refl _), k.moved (by rw [h]; exact Vm.Alike.refl _)⟩
theorem NW.warm {s U : State} (hW : s.WarmedH U.vm) (n : NW s) : NW U := by
  obtain ⟨a, b, c, d, e, f, g, i, j, k⟩ := n
  exact ⟨va_Nw.warmM hW a, va_Nw.warmM hW b, va_Nw.warmM hW c, va_Nw.warmM hW d, va_Nw.warmM hW e, va_Nw.warmM hW f, va_Nw.warmM hW g, i.moved hW.alike, j.moved hW.alike, k.moved hW.alike⟩
def KK (D : va_G) (cy : Nat → ClassId) (U : State) : Prop := va_K D vwCl (tyK cy) U ∧ NW U
theorem KK.warm {D : va_G} {cy : Nat → ClassId} {s U : State} (hW : s.WarmedH U.vm) (h : KK D cy s) : KK D cy U := ⟨va_K.moved hW.alike h.1, h.2.warm hW⟩
theorem KK.same {D : va_G} {cy : Nat → ClassId} {u U : State} (hv : u.vm = U.vm) (h : KK D cy u) : KK D cy U := ⟨va_K.moved (by rw [hv]; exact Vm.Alike.refl _) h.1, h.2.same hv⟩
/-- what a method may write: the world's cells, and those that are new -/
def Fr (A : Nat → Nat) (G : Nat → Bool) (sz : Nat) : Nat → Prop := fun q => (∃ c, inL G c = true ∧ q = A c) ∨ sz ≤ q
/-- a method's start and end -/
def Pr (D : va_G) (cy : Nat → ClassId) (A : Nat → Nat) (G : Nat → Bool) (M : Mem) (sz : Nat) : State → Prop := fun U => U.heap.size = sz ∧ va_P D vwCl (wl A cy G M) U.heap ∧ KK D cy U ∧ va_D (fun _ => True) (wl A cy G M)
def Po (D : va_G) (cy : Nat → ClassId) (A : Nat → Nat) (G : Nat → Bool) (F : Nat → Prop) : Mem → State → Prop := fun M' t => va_P D vwCl (wl A cy G M') t.heap ∧ KK D cy t ∧ va_D F (wl A cy G M')
theorem Pr.blind {D : va_G} {cy : Nat → ClassId} {A : Nat → Nat} {G : Nat → Bool} {M : Mem} {sz : Nat} {av : List Value} : FrameBlind (va_Pc av (Pr D cy A G M sz)) := fun a U g mk q => by
  obtain ⟨q0, q1, qP, qK, qD⟩ := q
  exact ⟨q0, q1, qP, qK.same rfl, qD⟩
theorem wl_Fr {A : Nat → Nat} {cy : Nat → ClassId} {G : Nat → Bool} {M : Mem} {As : Nat → Prop} {sz : Nat} (hD : va_D As (wl A cy G M)) : va_D (Fr A G sz) (wl A cy G M) := ⟨hD.1, fun k q hk => by
  obtain ⟨c, -, h2, h3⟩ := wl_at hk
  exact Or.inl ⟨c, h2, by rw [h3]⟩⟩
theorem Fr_As {D : va_G} {cy : Nat → ClassId} {As : Nat → Prop} {A : Nat → Nat} {H0 H : Heap} {G : Nat → Bool} {M : Mem} {locs : List Loc} (hw : WD D cy As A H0 G M H locs) (hA : ∀ q, H0.size ≤ q → As q) : ∀ q, Fr A G H.size q → As q := by
  intro q h
  rcases h with ⟨c, h, rfl⟩ | h
  · obtain ⟨k, hk⟩ := wl_get (A := A) (cy := cy) (M := M) h
    exact hw.2.1.2 k _ hk
  · exact hA q (Nat.le_trans hw.2.2.1 h)
/-- a fact that a mirror asks for -/
def ck {α : Type} (p : Prop) [Decidable p] (k : Option α) : Option α := if p then k else none
theorem ck_some {α : Type} {p : Prop} [Decidable p] {k : Option α} {r : α} (h : ck p k = some r) : p ∧ k = some r := by
  unfold ck at h
  by_cases hp : p
  · rw [if_pos hp] at h
    exact ⟨hp, h⟩
  · rw [if_neg hp] at h
    cases h
theorem bd_some {α β : Type} {x : Option α} {k : α → Option β} {r : β} (h : x.bind k = some r) : ∃ y, x = some y ∧ k y = some r := by
  cases x with
  | none => cases h
  | some y => exact ⟨y, rfl, h⟩
/-- an int that a boolean may be -/
abbrev zb (x : Int32) : Prop := x = 0 ∨ x = 1
theorem zb_n {x : Int32} (h : zb x) : narrow .boolean (.int x) = .int x := by
  rcases h with rfl | rfl <;> rfl
theorem zb_f {x : Int32} (h : zb x) : fits .boolean (.int x) = true := by
  rcases h with rfl | rfl <;> rfl
