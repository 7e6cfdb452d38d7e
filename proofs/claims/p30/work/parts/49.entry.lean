/-! what the tables and the Statement give at the law's entry -/
theorem law_cls {args : Array Value} {s : State} (hts : ∀ w ∈ LW, w.before args s = true) : ∃ D : va_G, ∀ (k : Nat) (q : vw_C), vwCl[k]? = some q → u_Kn s q.1 q.2.1 q.2.2 (D.1 k) (D.2 k) := by
  obtain ⟨c0, i0, h0⟩ := u_known (C := RX0) (T := TX0) (N := 12) (n := 12) hts iwX0 (hts _ k_it_RX0)
  obtain ⟨c1, i1, h1⟩ := u_known (C := RX1) (T := TX1) (N := 6) (n := 6) hts iwX1 (hts _ k_it_RX1)
  obtain ⟨c2, i2, h2⟩ := u_known (C := RX3) (T := TX3) (N := 5) (n := 5) hts iwX3 (hts _ k_it_RX3)
  obtain ⟨c3, i3, h3⟩ := u_known (C := RX4) (T := TX4) (N := 3) (n := 3) hts iwX4 (hts _ k_it_RX4)
  obtain ⟨c4, i4, h4⟩ := u_known (C := RX5) (T := TX5) (N := 2) (n := 2) hts iwX5 (hts _ k_it_RX5)
  refine ⟨(fun k => if k = 0 then c0 else if k = 1 then c1 else if k = 2 then c2 else if k = 3 then c3 else c4, fun k => if k = 0 then i0 else if k = 1 then i1 else if k = 2 then i2 else if k = 3 then i3 else i4), ?_⟩
  intro k q hq
  match k, hq with
  | 0, hq => cases hq; exact h0
  | 1, hq => cases hq; exact h1
  | 2, hq => cases hq; exact h2
  | 3, hq => cases hq; exact h3
  | 4, hq => cases hq; exact h4
  | k + 5, hq => simp [vwCl] at hq
theorem law_arr {args : Array Value} {s : State} {ty : FieldType} (h : (Cond.arrayClass ty).before args s = true) (hs : ∀ cA, s.vm.findClass ("[" ++ ty.toString) = some cA → va_RA s cA ty) : ∃ cA : ClassId, ArrOfT s cA ty ∧ va_RA s cA ty := by
  obtain ⟨cA, kA, comp, h1, h2, h3⟩ := Cond.arrayClass_spec h
  exact ⟨cA, fun n z => ⟨fun k h => (by cases h), kA, h2, comp, h3⟩, hs cA h1⟩
theorem law_arrO {s : State} {C : String} (h : va_AO C s) : ∃ cA : ClassId, ArrOfT s cA (.object C) ∧ va_RA s cA (.object C) := by
  obtain ⟨comp, cA, kA, h1, h2, h3, h4, h5⟩ := Cond.arrayOver_spec h
  exact ⟨cA, fun n z => ⟨fun k h => (by cases h), kA, h3, comp, h4⟩, kA, comp, h3, h4, h1, h5⟩
theorem law_KK {args : Array Value} {s : State} (hts0 : ∀ w ∈ lw_tbl, w.before args s = true) : ∃ (D : va_G) (cy : Nat → ClassId), KK D cy s := by
  have hts : ∀ w ∈ LW, w.before args s = true := fun w h => hts0 w (List.mem_filter.mp h).1
  obtain ⟨D, hD⟩ := law_cls hts
  have o0 : va_AO RX0 s := va_AO.of (hts0 (Cond.arrayOver (.object RX0)) (by decide +kernel))
  have o1 : va_AO RX1 s := va_AO.of (hts0 (Cond.arrayOver (.object RX1)) (by decide +kernel))
  have o3 : va_AO RX3 s := va_AO.of (hts0 (Cond.arrayOver (.object RX3)) (by decide +kernel))
  obtain ⟨d0, e0⟩ := law_arr (hts _ k_ac_int) (fun cA h => h)
  obtain ⟨d1, e1⟩ := law_arrO o0
  obtain ⟨d2, e2⟩ := law_arrO o1
  obtain ⟨d3, e3⟩ := law_arrO o3
  refine ⟨D, fun k => if k = 0 then d0 else if k = 1 then d1 else if k = 2 then d2 else d3, ⟨hD, ?_⟩, ?_⟩
  · intro k q hq
    match k, hq with
    | 0, hq => cases hq; exact e0
    | 1, hq => cases hq; exact e1
    | 2, hq => cases hq; exact e2
    | 3, hq => cases hq; exact e3
    | k + 4, hq => simp [tyK] at hq
  · exact ⟨va_Nw.of rfl (hts0 _ (by decide +kernel)), va_Nw.of rfl (hts0 _ (by decide +kernel)), va_Nw.of rfl (hts0 _ (by decide +kernel)), va_Nw.of rfl (hts0 _ (by decide +kernel)), va_Nw.of rfl (hts0 _ (by decide +kernel)), va_Nw.of rfl (hts0 _ (by decide +kernel)), va_Nw.of rfl (hts0 _ (by decide +kernel)), o0, o1, o3⟩
/-! the law's entry: the classes, the texts, the first world -/
def Zm : Mem := (fun _ _ => 0, fun _ _ => 0, 0, fun _ => 0, fun _ => 0)
def M0 : Mem := ini 64 Zm
def G0 : Nat → Bool := fun _ => false
def A0 (x : Nat → Nat) (u : StU) : Nat → Nat := fun c => if c < 3 then x c else stA (x 64) u (c - 64)
theorem stW_len {cy : Nat → ClassId} {A : Nat → Nat} {B h : Nat} {u : StU} : (stW' cy A B h u).length = 47 := rfl
set_option maxHeartbeats 4000000 in
set_option maxRecDepth 100000 in
theorem entry_world {D : va_G} {cy : Nat → ClassId} {As : Nat → Prop} {x : Nat → Nat} {u : StU} {H : Heap} {tl : va_W} (htl : tl = [(x 1, .inr (3, [.int 0, .int 0, .ref (x 2)])), (x 2, .inl (cy 3, 4, va_refs (fun _ => none)))])
    (hP : va_P D vwCl ([(x 0, .inr (4, [.ref (x 64), .ref (x 1)]))] ++ (stW cy (x 64) u ++ tl)) H) (hD : va_D As ([(x 0, .inr (4, [.ref (x 64), .ref (x 1)]))] ++ (stW cy (x 64) u ++ tl))) :
    va_P D vwCl (wl (A0 x u) cy G0 M0) H ∧ va_D As (wl (A0 x u) cy G0 M0) := by
  have hN : ∀ r, r < 47 → A0 x u (64 + r) = stA (x 64) u r := fun r hr => by
    unfold A0
    rw [if_neg (by omega), Nat.add_sub_cancel_left]
  have hP2 : va_P D vwCl ([(x 0, .inr (4, [.ref (x 64), .ref (x 1)]))] ++ (stW' cy (A0 x u) 64 (x 64) u ++ tl)) H := by
    refine va_P.app (va_P_l hP) (va_P.app (W3_congr (fun j hj => ?_) (fun j hj => ?_) (va_P_l (va_P_r hP))) (va_P_r (va_P_r hP)))
    · rw [if_pos hj, show 64 + 1 + 2 + 3 * j = 64 + (3 + 3 * j) by omega, hN _ (by omega)]
      have e1 : (3 + 3 * j) % 3 = 0 := by omega
      have e2 : (3 + 3 * j - 3) / 3 = j := by omega
      unfold stA
      rw [if_neg (by omega), if_neg (by omega), if_neg (by omega), if_pos (by omega), if_pos e1, e2]
    · rw [if_pos hj, show 64 + 2 + 25 + 5 * j = 64 + (27 + 5 * j) by omega, hN _ (by omega)]
      have e1 : (27 + 5 * j - 27) % 5 = 0 := by omega
      have e2 : (27 + 5 * j - 27) / 5 = j := by omega
      unfold stA
      rw [if_neg (by omega), if_neg (by omega), if_neg (by omega), if_neg (by omega), if_pos e1, e2]
  have hD2 : va_D As ([(x 0, .inr (4, [.ref (x 64), .ref (x 1)]))] ++ (stW' cy (A0 x u) 64 (x 64) u ++ tl)) := by
    refine va_D_fst ?_ hD
    simp only [List.map_append, List.map_cons, List.map_nil]
  have hst := st_at (cy := cy) (A := A0 x u) (G := G0) (M := M0) (B := 64) (h := x 64) (u := u) (by omega) (by omega) hN (fun r j hr => by
    show (if (64 + r) / 64 = 64 / 64 then _ else _) = _
    rw [if_pos (by omega), show (64 + r) % 64 = r by omega]) (fun r hr => by
    show (if (64 + r) / 64 = 64 / 64 then _ else _) = _
    rw [if_pos (by omega)])
  have h64 : A0 x u 64 = x 64 := hN 0 (by omega)
  refine wl_of hP2 hD2 (fun c => if c = 0 then 0 else if c < 3 then 47 + c else c - 63) (fun c hc => ?_) (fun c d hc hd hcd => ?_)
  · rcases inL_iff.mp hc with h8 | ⟨-, h8⟩ | ⟨a, b, d, f⟩
    · subst htl
      rcases (show c = 0 ∨ c = 1 ∨ c = 2 by omega) with rfl | rfl | rfl
      · rw [cont_4 rfl]; unfold c4L; rw [h64]; rfl
      · rw [cont_3 rfl]; rfl
      · rw [cont_9 rfl]; rfl
    · cases h8
    · have f : c < 128 := f.resolve_right (fun q => nomatch q)
      show ([(x 0, _)] ++ (stW' cy (A0 x u) 64 (x 64) u ++ tl))[if c = 0 then 0 else if c < 3 then 47 + c else c - 63]? = _
      rw [if_neg (by omega), if_neg (by omega), List.getElem?_append_right (by show 1 ≤ _; omega), List.getElem?_append_left (by rw [stW_len]; show c - 63 - 1 < 47; omega)]
      have h1 := hst (c - 64) (by omega)
      rw [show 64 + (c - 64) = c by omega] at h1
      exact h1
  · have key : ∀ c, inL G0 c = true → c < 3 ∨ 64 ≤ c ∧ c < 128 ∧ c % 64 < 47 := by
      intro c hc
      rcases inL_iff.mp hc with h | ⟨-, h⟩ | ⟨a, b, d, f⟩
      · exact Or.inl h
      · cases h
      · exact Or.inr ⟨a, f.resolve_right (fun q => nomatch q), d⟩
    have e1 := key c hc
    have e2 := key d hd
    by_cases a1 : c = 0 <;> by_cases a2 : d = 0 <;> by_cases a3 : c < 3 <;> by_cases a4 : d < 3 <;> simp only [a1, a2, a3, a4, if_true, if_false] at hcd <;> omega

