/-! A NEW STATE IN THE RING -/
def rg (G : Nat → Bool) (i : Nat) : Option Nat := if G i then some (128 + 64 * i) else none
def ini (B : Nat) (M : Mem) : Mem := (fun c j => if c / 64 = B / 64 then (if kd2 (c % 64) = 0 ∧ j = 0 then nI ((c % 64 - 27) / 5) else 0) else gF M c j, fun c => if c / 64 = B / 64 then (fun _ => 0) else gR M c, M.2.2)
theorem va_P_l {D : va_G} {cl : List vw_C} {a b : va_W} {H : Heap} (h : va_P D cl (a ++ b) H) : va_P D cl a H := fun k q hk => h k q (by rw [List.getElem?_append_left (List.getElem?_eq_some_iff.mp hk).1]; exact hk)
theorem va_P_r {D : va_G} {cl : List vw_C} {a b : va_W} {H : Heap} (h : va_P D cl (a ++ b) H) : va_P D cl b H := fun k q hk => h (a.length + k) q (by rw [List.getElem?_append_right (by omega), Nat.add_sub_cancel_left]; exact hk)
theorem va_D_fst {As : Nat → Prop} {a b : va_W} (h : a.map Prod.fst = b.map Prod.fst) (hD : va_D As a) : va_D As b := by
  have key : ∀ (k : Nat) (q : Nat × va_E), b[k]? = some q → ∃ q', a[k]? = some q' ∧ q'.1 = q.1 := by
    intro k q hk
    have h1 : (a.map Prod.fst)[k]? = some q.1 := by rw [h, List.getElem?_map, hk]; rfl
    rw [List.getElem?_map] at h1
    cases ha : a[k]? with
    | none => rw [ha] at h1; cases h1
    | some q' => rw [ha] at h1; exact ⟨q', rfl, Option.some.inj h1⟩
  refine ⟨fun i j p q hi hj hpq => ?_, fun k q hk => ?_⟩
  · obtain ⟨p', h1, h2⟩ := key i p hi
    obtain ⟨q', h3, h4⟩ := key j q hj
    exact hD.1 i j p' q' h1 h3 (h2.trans (hpq.trans h4.symm))
  · obtain ⟨q', h1, h2⟩ := key k q hk
    rw [← h2]
    exact hD.2 k q' h1
/-- old cells seen with more places -/
theorem cont_old {A A1 : Nat → Nat} {cy : Nat → ClassId} {G G1 : Nat → Bool} {M : Mem} {B c : Nat} (hA : ∀ c, c / 64 ≠ B / 64 → A1 c = A c) (hB : 128 ≤ B) (hB0 : B % 64 = 0) (hc : c < 8 ∨ c % 64 < 47) (h : c / 64 ≠ B / 64) (h9 : kd c ≠ 9) : cont A1 cy G1 (ini B M) c = cont A cy G M c := by
  have e : ∀ j, gF (ini B M) c j = gF M c j := fun j => if_neg h
  have e2 : gR (ini B M) c = gR M c := if_neg h
  have d : ∀ j, j < 5 → A1 (c + j) = A (c + j) := fun j hj => hA _ (by omega)
  have d1 := d 1 (by omega)
  have d2 := d 2 (by omega)
  have d3 := d 3 (by omega)
  have d4 := d 4 (by omega)
  have s0 : ∀ x, x < 128 → x / 64 ≠ B / 64 → A1 x = A x := fun x _ hx => hA x hx
  have hx2 : A1 2 = A 2 := hA 2 (by omega)
  have hx1 : A1 1 = A 1 := hA 1 (by omega)
  have hx4 : A1 4 = A 4 := hA 4 (by omega)
  have hx5 : A1 5 = A 5 := hA 5 (by omega)
  unfold cont
  by_cases k0 : kd c = 0
  · rw [if_pos k0, if_pos k0]; unfold c0L; simp only [e, d1, d2, d3, d4]
  rw [if_neg k0, if_neg k0]
  by_cases k1 : kd c = 1
  · rw [if_pos k1, if_pos k1]; unfold c1L; simp only [e, d1, d2]
  rw [if_neg k1, if_neg k1]
  by_cases k2 : kd c = 2
  · rw [if_pos k2, if_pos k2]; unfold c2L; simp only [e, d1, d2]
  rw [if_neg k2, if_neg k2]
  by_cases k3 : kd c = 3
  · rw [if_pos k3, if_pos k3]; unfold c3L; simp only [e, hx2]
  rw [if_neg k3, if_neg k3]
  by_cases k4 : kd c = 4
  · rw [if_pos k4, if_pos k4]
    unfold c4L; rw [hA 64 (by omega), hx1]
  rw [if_neg k4, if_neg k4]
  by_cases k5 : kd c = 5
  · rw [if_pos k5, if_pos k5]; unfold c5L; simp only [e, hx4, hx5]; rfl
  rw [if_neg k5, if_neg k5]
  by_cases k6 : kd c = 6
  · rw [if_pos k6, if_pos k6, e2]
  rw [if_neg k6, if_neg k6]
  by_cases k7 : kd c = 7
  · rw [if_pos k7, if_pos k7]
    have : (fun l => if l < 4 then some (A1 (c + 25 + 5 * l)) else none) = (fun l => if l < 4 then some (A (c + 25 + 5 * l)) else none) := by
      funext l
      by_cases hl : l < 4
      · rw [if_pos hl, if_pos hl, hA _ (by
          have h8 : 8 ≤ c := by
            rcases Nat.lt_or_ge c 8 with h8 | h8
            · rcases kd_lt h8 with q | q | q | q | q | q | q <;> omega
            · exact h8
          rw [kd_ge h8] at k7
          have h2 : c % 64 = 2 := (by decide : ∀ r, r < 47 → kd2 r = 7 → r = 2) _ (by omega) k7
          omega)]
      · rw [if_neg hl, if_neg hl]
    rw [this]
  rw [if_neg k7, if_neg k7]
  by_cases k8 : kd c = 8
  · rw [if_pos k8, if_pos k8]
    have : (fun j => if j < 8 then some (A1 (c + 2 + 3 * j)) else none) = (fun j => if j < 8 then some (A (c + 2 + 3 * j)) else none) := by
      funext l
      by_cases hl : l < 8
      · rw [if_pos hl, if_pos hl, hA _ (by
          have h8 : 8 ≤ c := by
            rcases Nat.lt_or_ge c 8 with h8 | h8
            · rcases kd_lt h8 with q | q | q | q | q | q | q <;> omega
            · exact h8
          rw [kd_ge h8] at k8
          have h2 : c % 64 = 1 := (by decide : ∀ r, r < 47 → kd2 r = 8 → r = 1) _ (by omega) k8
          omega)]
      · rw [if_neg hl, if_neg hl]
    rw [this]
  rw [if_neg k8, if_neg k8, if_neg h9, if_neg h9]
  rfl

section PN
variable {p : Program} {l : Launch} {e : Env} {R : Room} {s : State} {m : MethodId} {args : Array Value} {below : List Frame} {meth : Method} {c : Code} {H : Heap} {locs : List Loc} {cells slots : Nat} {Q : State → Prop} {ls : Array Slot} {D : va_G} {cy : Nat → ClassId} {As : Nat → Prop} {A : Nat → Nat} {H0 : Heap} {G : Nat → Bool} {M : Mem}
/-- the world with the new state, out of the old one and the state's cells -/
theorem wl_grow {A1 : Nat → Nat} {i h kr : Nat} {u : StU} (hi : i < 4) (hg : G i = false) (hkr : (wl A cy G M)[kr]? = some (A 2, .inl (cy 3, 4, va_refs (fun j => if G j then some (A (128 + 64 * j)) else none))))
    (hA : ∀ c, c / 64 ≠ (128 + 64 * i) / 64 → A1 c = A c) (hN : ∀ r, r < 47 → A1 (128 + 64 * i + r) = stA h u r)
    (hP : va_P D vwCl ((wl A cy G M).set kr (A 2, .inl (cy 3, 4, va_refs (va_up (fun j => if G j then some (A (128 + 64 * j)) else none) i (some h)))) ++ stW cy h u) H) (hD : va_D As ((wl A cy G M).set kr (A 2, .inl (cy 3, 4, va_refs (va_up (fun j => if G j then some (A (128 + 64 * j)) else none) i (some h)))) ++ stW cy h u)) (hD0 : va_D As (wl A cy G M)) :
    va_P D vwCl (wl A1 cy (va_up G i true) (ini (128 + 64 * i) M)) H ∧ va_D As (wl A1 cy (va_up G i true) (ini (128 + 64 * i) M)) := by
  have hB : (128 + 64 * i) / 64 = i + 2 := by omega
  have hP2 : va_P D vwCl ((wl A cy G M).set kr (A 2, .inl (cy 3, 4, va_refs (va_up (fun j => if G j then some (A (128 + 64 * j)) else none) i (some h)))) ++ stW' cy A1 (128 + 64 * i) h u) H := by
    refine va_P.app (va_P_l hP) (W3_congr (fun j hj => ?_) (fun j hj => ?_) (va_P_r hP))
    · rw [if_pos hj, show 128 + 64 * i + 1 + 2 + 3 * j = 128 + 64 * i + (3 + 3 * j) by omega, hN _ (by omega)]
      have e1 : (3 + 3 * j) % 3 = 0 := by omega
      have e2 : (3 + 3 * j - 3) / 3 = j := by omega
      unfold stA
      rw [if_neg (by omega), if_neg (by omega), if_neg (by omega), if_pos (by omega), if_pos e1, e2]
    · rw [if_pos hj, show 128 + 64 * i + 2 + 25 + 5 * j = 128 + 64 * i + (27 + 5 * j) by omega, hN _ (by omega)]
      have e1 : (27 + 5 * j - 27) % 5 = 0 := by omega
      have e2 : (27 + 5 * j - 27) / 5 = j := by omega
      unfold stA
      rw [if_neg (by omega), if_neg (by omega), if_neg (by omega), if_neg (by omega), if_pos e1, e2]
  have hD2 : va_D As ((wl A cy G M).set kr (A 2, .inl (cy 3, 4, va_refs (va_up (fun j => if G j then some (A (128 + 64 * j)) else none) i (some h)))) ++ stW' cy A1 (128 + 64 * i) h u) := by
    refine va_D_fst ?_ hD
    simp only [List.map_append, List.map_cons, List.map_nil]
  have old : ∀ c, inL (va_up G i true) c = true → c / 64 ≠ i + 2 → inL G c = true := by
    intro c h1 h2
    rcases inL_iff.mp h1 with h3 | ⟨h3, h7⟩ | ⟨a, b, d, f⟩
    · exact inL_iff.mpr (Or.inl h3)
    · exact inL_iff.mpr (Or.inr (Or.inl ⟨h3, by rw [va_up_ne _ _ (show 7 ≠ i by omega)] at h7; exact h7⟩))
    · refine inL_iff.mpr (Or.inr (Or.inr ⟨a, b, d, ?_⟩))
      rcases f with f | f
      · exact Or.inl f
      · by_cases h128 : c < 128
        · exact Or.inl h128
        · refine Or.inr ?_
          rw [va_up_ne _ _ (show c / 64 - 2 ≠ i by omega)] at f
          exact f
  have hpk : ∀ c, inL G c = true → ∃ k, (Lc G)[k]? = some c := fun c h => List.getElem?_of_mem (mem_Lc.mpr h)
  have hlen : ((wl A cy G M).set kr (A 2, .inl (cy 3, 4, va_refs (va_up (fun j => if G j then some (A (128 + 64 * j)) else none) i (some h))))).length = (Lc G).length := by
    rw [List.length_set]; unfold wl; rw [List.length_map]
  refine wl_of hP2 hD2 (fun c => if hc : inL G c = true ∧ c / 64 ≠ i + 2 then Classical.choose (hpk c hc.1) else (Lc G).length + c % 64) (fun c hc => ?_) (fun c d hc hd hcd => ?_)
  · by_cases h2 : c / 64 = i + 2
    · rw [dif_neg (fun q => q.2 h2)]
      have h47 : c % 64 < 47 ∧ 64 ≤ c := by
        rcases inL_iff.mp hc with h3 | h3 | ⟨a, b, d, -⟩
        · omega
        · omega
        · exact ⟨d, a⟩
      rw [List.getElem?_append_right (by rw [hlen]; omega), hlen, Nat.add_sub_cancel_left]
      have hcc : c = 128 + 64 * i + c % 64 := by omega
      have h3 := st_at (cy := cy) (A := A1) (G := va_up G i true) (M := ini (128 + 64 * i) M) (B := 128 + 64 * i) (h := h) (u := u) (by omega) (by omega) hN (fun r j hr => by
        show (if (128 + 64 * i + r) / 64 = (128 + 64 * i) / 64 then _ else _) = _
        rw [if_pos (by omega), show (128 + 64 * i + r) % 64 = r by omega]) (fun r hr => by
        show (if (128 + 64 * i + r) / 64 = (128 + 64 * i) / 64 then _ else _) = _
        rw [if_pos (by omega)]) (c % 64) h47.1
      rw [← hcc] at h3
      exact h3
    · have hc1 := old c hc h2
      rw [dif_pos ⟨hc1, h2⟩]
      have hk := Classical.choose_spec (hpk c hc1)
      generalize Classical.choose (hpk c hc1) = k at hk
      have hwk : (wl A cy G M)[k]? = some (A c, cont A cy G M c) := by unfold wl; rw [List.getElem?_map, hk]; rfl
      have hkl : k < (wl A cy G M).length := (List.getElem?_eq_some_iff.mp hwk).1
      rw [List.getElem?_append_left (by rw [List.length_set]; exact hkl)]
      by_cases h9 : c = 2
      · subst h9
        obtain ⟨d, hd, -, hq⟩ := wl_at hkr
        have : k = kr := wl_inj hD0 hk hd (congrArg Prod.fst hq)
        subst this
        have hfun : va_up (fun j => if G j then some (A (128 + 64 * j)) else none) i (some h) = (fun j => if va_up G i true j then some (A1 (128 + 64 * j)) else none) := by
          funext j
          by_cases hj : j = i
          · subst hj
            have h0 : A1 (128 + 64 * j) = h := hN 0 (by omega)
            simp [va_up, h0]
          · rw [va_up_ne _ _ hj, va_up_ne _ _ hj, hA _ (by omega)]
        rw [List.getElem?_set_self hkl, cont_9 rfl, hA 2 (by omega), hfun]
      · rw [List.getElem?_set_ne (fun q => by
          subst q
          obtain ⟨d, hd, -, hq⟩ := wl_at hkr
          have h3 : c = d := Option.some.inj (hk.symm.trans hd)
          subst h3
          have h4 := congrArg Prod.fst hq
          exact h9 (by
            have h5 := wl_inj (i := kr) (j := kr) hD0 hk hd rfl
            by_cases h6 : inL G 2 = true
            · obtain ⟨k2, hk2⟩ := hpk 2 h6
              have h7 := wl_inj hD0 hk2 hk h4
              subst h7
              exact Option.some.inj (hk.symm.trans hk2)
            · exact absurd rfl h6)), hwk, hA c (by omega), cont_old hA (by omega) (by omega) (by
          rcases inL_iff.mp hc1 with h3 | h3 | ⟨a, b, d, -⟩
          · exact Or.inl (by omega)
          · exact Or.inl (by omega)
          · exact Or.inr d) (by omega) (fun h => h9 (by
          by_cases h8 : c < 8
          · exact (by decide : ∀ c, c < 8 → kd c = 9 → c = 2) c h8 h
          · exfalso
            rw [kd_ge (by omega)] at h
            have h47 : c % 64 < 47 := by
              rcases inL_iff.mp hc1 with h3 | h3 | ⟨a, b, d, -⟩
              · omega
              · omega
              · exact d
            exact (by decide : ∀ r, r < 47 → kd2 r ≠ 9) _ h47 h))]
  · by_cases h1 : inL G c = true ∧ c / 64 ≠ i + 2 <;> by_cases h2 : inL G d = true ∧ d / 64 ≠ i + 2
    · rw [dif_pos h1, dif_pos h2] at hcd
      have e1 := Classical.choose_spec (hpk c h1.1)
      have e2 := Classical.choose_spec (hpk d h2.1)
      rw [hcd] at e1
      exact Option.some.inj (e1.symm.trans e2)
    · rw [dif_pos h1, dif_neg h2] at hcd
      have e1 := (List.getElem?_eq_some_iff.mp (Classical.choose_spec (hpk c h1.1))).1
      omega
    · rw [dif_neg h1, dif_pos h2] at hcd
      have e1 := (List.getElem?_eq_some_iff.mp (Classical.choose_spec (hpk d h2.1))).1
      omega
    · rw [dif_neg h1, dif_neg h2] at hcd
      have f1 : c / 64 = i + 2 := Decidable.byContradiction fun q => h1 ⟨old c hc q, q⟩
      have f2 : d / 64 = i + 2 := Decidable.byContradiction fun q => h2 ⟨old d hd q, q⟩
      omega
end PN
