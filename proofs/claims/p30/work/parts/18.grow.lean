theorem vp_q_congr {cA : ClassId} {n : Nat} {f f' : Nat → Option Nat} (h : ∀ j, j < n → f j = f' j) : vp_cell cA (n, va_refs f) = vp_cell cA (n, va_refs f') := by
  rw [vp_cell_q, vp_cell_q]
  unfold arrV
  congr 1
  apply Array.ext
  · simp
  · intro i h1 h2
    simp only [Array.size_ofFn] at h1
    simp [h i h1]
/-- rows of references that agree as far as they go -/
theorem W3_congr {D : va_G} {cy : Nat → ClassId} {h na la : Nat} {f f' g g' : Nat → Option Nat} {X : va_W} {H : Heap} (hf : ∀ j, j < 8 → f j = f' j) (hg : ∀ j, j < 4 → g j = g' j) (hP : va_P D vwCl (W3 cy h na la f g ++ X) H) : va_P D vwCl (W3 cy h na la f' g' ++ X) H := by
  intro k q hk
  match k with
  | 0 => exact hP 0 q hk
  | 1 =>
    have e : q = (na, .inl (cy 2, 8, va_refs f')) := (Option.some.inj hk).symm
    subst e
    have h1 := hP 1 _ rfl
    show H[na]? = some (vp_cell (cy 2) (8, va_refs f'))
    rw [← vp_q_congr hf]
    exact h1
  | 2 =>
    have e : q = (la, .inl (cy 1, 4, va_refs g')) := (Option.some.inj hk).symm
    subst e
    have h1 := hP 2 _ rfl
    show H[la]? = some (vp_cell (cy 1) (4, va_refs g'))
    rw [← vp_q_congr hg]
    exact h1
  | k + 3 => exact hP (k + 3) q hk
theorem W3_D {As : Nat → Prop} {cy : Nat → ClassId} {h na la : Nat} {f f' g g' : Nat → Option Nat} {X : va_W} (hD : va_D As (W3 cy h na la f g ++ X)) : va_D As (W3 cy h na la f' g' ++ X) := by
  have key : ∀ (k : Nat) (q : Nat × va_E), (W3 cy h na la f' g' ++ X)[k]? = some q → ∃ q', (W3 cy h na la f g ++ X)[k]? = some q' ∧ q'.1 = q.1 := by
    intro k q hk
    match k with
    | 0 => exact ⟨q, hk, rfl⟩
    | 1 => exact ⟨_, rfl, by rw [← Option.some.inj hk]⟩
    | 2 => exact ⟨_, rfl, by rw [← Option.some.inj hk]⟩
    | k + 3 => exact ⟨q, hk, rfl⟩
  refine ⟨fun i j p q hi hj hpq => ?_, fun k q hk => ?_⟩
  · obtain ⟨p', h1, h2⟩ := key i p hi
    obtain ⟨q', h3, h4⟩ := key j q hj
    exact hD.1 i j p' q' h1 h3 (h2.trans (hpq.trans h4.symm))
  · obtain ⟨q', h1, h2⟩ := key k q hk
    rw [← h2]
    exact hD.2 k q' h1
theorem st_e {w : va_W} {r a b : Nat} {x c : va_E} (h1 : w[r]? = some (a, c)) (h2 : b = a) (h3 : x = c) : w[r]? = some (b, x) := by rw [h1, h2, h3]
abbrev StU : Type := Nat × Nat × (Nat → Nat × Nat × Nat) × (Nat → Nat × Nat × Nat × Nat × Nat)
abbrev stW (cy : Nat → ClassId) (h : Nat) (u : StU) : va_W := W3 cy h u.1 u.2.1 (fun j => some (u.2.2.1 j).1) (fun j => some (u.2.2.2 j).1) ++ (nodesX cy u.2.2.1 8 ++ ledsX cy u.2.2.2 4)
set_option maxHeartbeats 4000000 in
set_option maxRecDepth 100000 in
theorem c_X3_init (l : Launch) {D : va_G} {cy : Nat → ClassId} {h sz : Nat} : Met l yX3_init (wm yX3_init cX3_init 2 none) rmS (va_Pc [.ref h] (PrW D cy [(h, bS)] sz)) (va_Qv (fun _ : StU => True) (fun u t => va_P D vwCl (stW cy h u) t.heap ∧ va_D (va_A [(h, bS)] sz) (stW cy h u)) (va_A [(h, bS)] sz)) 46 3492 (va_A [(h, bS)] sz) := by
  refine ofC (Qc := fun sz => va_Qv (fun _ : StU => True) (fun u t => va_P D vwCl (stW cy h u) t.heap ∧ va_D (va_A [(h, bS)] sz) (stW cy h u)) (va_A [(h, bS)] sz)) (by decide +kernel) (Nat.le_of_ble_eq_true rfl) ?_
  intro p e s m below meth c hx hb hr hts hown hlocks hml hin hK hP hD ls hl
  have hin : meth.name = "<init>" := hin
  have hl : lv_has ls 2 [(0, .ref h)] := hl
  have hS : va_S (va_A [(h, bS)] s.heap.size) s.heap s.heap [] := va_S.rf
  refine lv_aload_n hx hb dX3_init_0 rfl (lv_at hl 0 rfl) ?_
  refine W.objInit hx hb hown (hts _ k_ml_RX3_3) (hts _ k_im_objectInit) (hts _ k_co_objectInit) rfl (by rw [hml]; exact hl.1) rfl dX3_init_1 (Nat.le_of_ble_eq_true rfl) (Nat.le_of_ble_eq_true rfl) ?_
  refine lv_aload_n hx hb dX3_init_4 rfl (lv_at hl 0 rfl) ?_
  refine lv_bipush (v := 8) hx hb dX3_init_5 (by decide) ?_
  refine va_newq (C := RX1) (N' := 8) hx hb hown (hts _ k_cl_RX3_9) hK.2.2.2.2.2.2.2.2.2.1 hK.1 hP hD hS A_hi (by decide) (by decide) (Nat.le_of_ble_eq_true rfl) (Nat.le_of_ble_eq_true rfl) (Nat.le_of_ble_eq_true rfl) dX3_init_7 (fun na cA H hK1 hP hD hS => ?_)
  obtain rfl : cA = cy 2 := tyQ hK (k := 2) rfl (hK1.2 4 (cA, .object RX1) rfl).2
  refine va_putF (ci := 2) (v := .ref na) (ty := .array (.object "LedgerStore$Node")) (C := RX3) (T := TX3) (N := 5) hx hb hts iwX3 tyX3 tyX3_ok nmX3 hown hK.1 hP hD hS 0 rfl rfl 3 (by decide) (hts _ k_fl_RX3_11) (fun _ h => h) rfl hin rfl (by decide +kernel) rfl rfl (Nat.le_of_ble_eq_true rfl) dX3_init_10 (fun H locs hP hD hS => ?_)
  refine lv_aload_n hx hb dX3_init_13 rfl (lv_at hl 0 rfl) ?_
  refine lv_iconst (v := 4) hx hb dX3_init_14 (by decide) ?_
  refine va_newq (C := RX0) (N' := 4) hx hb hown (hts _ k_cl_RX3_17) hK.2.2.2.2.2.2.2.2.1 hK.1 hP hD hS A_hi (by decide) (by decide) (Nat.le_of_ble_eq_true rfl) (Nat.le_of_ble_eq_true rfl) (Nat.le_of_ble_eq_true rfl) dX3_init_15 (fun la cA H hK1 hP hD hS => ?_)
  obtain rfl : cA = cy 1 := tyQ hK (k := 1) rfl (hK1.2 4 (cA, .object RX0) rfl).2
  refine va_putF (ci := 2) (v := .ref la) (ty := .array (.object "LedgerStore$Ledger")) (C := RX3) (T := TX3) (N := 5) hx hb hts iwX3 tyX3 tyX3_ok nmX3 hown hK.1 hP hD hS 0 rfl rfl 4 (by decide) (hts _ k_fl_RX3_19) (fun _ h => h) rfl hin rfl (by decide +kernel) rfl rfl (Nat.le_of_ble_eq_true rfl) dX3_init_18 (fun H locs hP hD hS => ?_)
  have hP : va_P D vwCl (W3 cy h na la (fun _ => none) (fun _ => none) ++ nodesX cy (fun _ => (0, 0, 0)) 0) H := hP
  have hD : va_D (va_A [(h, bS)] s.heap.size) (W3 cy h na la (fun _ => none) (fun _ => none) ++ nodesX cy (fun _ => (0, 0, 0)) 0) := hD
  refine lv_iconst (v := 0) hx hb dX3_init_21 (by decide) ?_
  refine lv_istore_n (lv' := [(1, .int 0), (0, .ref h)]) hx hb dX3_init_22 rfl hl (by decide) rfl (fun ls hl => ?_)
  refine W.cs (cells' := 2 + 3 * 0) (slots' := 12 + 266 * 0) rfl rfl ?_
  refine si_nodes (l := l) (g := fun _ => none) hx hb hml hts hown hK A_hi (fun qn f H locs hf hP hD hS ls hl => ?_) 8 0 rfl (fun _ => (0, 0, 0)) (fun _ => none) H locs (fun j hj => absurd hj (Nat.not_lt_zero j)) hP hD hS ls (lv_sub hl [1, 0] rfl)
  refine lv_iconst (v := 0) hx hb dX3_init_51 (by decide) ?_
  refine lv_istore_n (lv' := [(1, .int 0), (0, .ref h)]) hx hb dX3_init_52 rfl hl (by decide) rfl (fun ls hl => ?_)
  have hP : va_P D vwCl (W3 cy h na la f (fun _ => none) ++ (nodesX cy qn 8 ++ ledsX cy (fun _ => (0, 0, 0, 0, 0)) 0)) H := by
    show va_P D vwCl (W3 cy h na la f (fun _ => none) ++ (nodesX cy qn 8 ++ [])) H
    rw [List.append_nil]
    exact hP
  have hD : va_D (va_A [(h, bS)] s.heap.size) (W3 cy h na la f (fun _ => none) ++ (nodesX cy qn 8 ++ ledsX cy (fun _ => (0, 0, 0, 0, 0)) 0)) := by
    show va_D (va_A [(h, bS)] s.heap.size) (W3 cy h na la f (fun _ => none) ++ (nodesX cy qn 8 ++ []))
    rw [List.append_nil]
    exact hD
  refine W.cs (cells' := 26 + 5 * 0) (slots' := 2140 + 338 * 0) rfl rfl ?_
  refine si_leds (l := l) (f := f) (X := nodesX cy qn 8) hx hb hml hts hown hK A_hi (fun ql g H locs hg hP hD hS ls => ?_) 4 0 rfl (fun _ => (0, 0, 0, 0, 0)) (fun _ => none) H locs (fun j hj => absurd hj (Nat.not_lt_zero j)) hP hD hS ls (lv_sub hl [1, 0] rfl)
  have hP := W3_congr (f' := fun j => some (qn j).1) (g' := fun j => some (ql j).1) hf hg hP
  have hD := W3_D (f' := fun j => some (qn j).1) (g' := fun j => some (ql j).1) hD
  exact W.vret hx hb hr (fun t ht hW => ⟨⟨(na, la, qn, ql), rfl, trivial, by rw [ht]; exact hP, hD⟩, hS.F ht⟩) hS.2.2 dX3_init_82 hlocks
/-- the world by codes, out of a list of cells, by the codes' places in it -/
theorem wl_of {D : va_G} {cy : Nat → ClassId} {As : Nat → Prop} {A : Nat → Nat} {G : Nat → Bool} {M : Mem} {ws : va_W} {H : Heap} (hP : va_P D vwCl ws H) (hD : va_D As ws) (pos : Nat → Nat) (hpos : ∀ c, inL G c = true → ws[pos c]? = some (A c, cont A cy G M c)) (hinj : ∀ c d, inL G c = true → inL G d = true → pos c = pos d → c = d) : va_P D vwCl (wl A cy G M) H ∧ va_D As (wl A cy G M) := by
  refine ⟨fun k q hk => ?_, fun i j x y hi hj hxy => ?_, fun k q hk => ?_⟩
  · obtain ⟨c, -, h2, rfl⟩ := wl_at hk
    exact hP _ _ (hpos c h2)
  · obtain ⟨c, h1, h2, rfl⟩ := wl_at hi
    obtain ⟨d, h3, h4, rfl⟩ := wl_at hj
    have e := hD.1 _ _ _ _ (hpos c h2) (hpos d h4) hxy
    obtain rfl := hinj c d h2 h4 e
    have hn : (Lc G).Nodup := List.Pairwise.filter _ List.nodup_range
    exact (List.getElem?_inj (List.getElem?_eq_some_iff.mp h1).1 hn).mp (h1.trans h3.symm)
  · obtain ⟨c, -, h2, rfl⟩ := wl_at hk
    exact hD.2 _ _ (hpos c h2)
/-- a state's cells, by their places -/
def stA (h : Nat) (u : StU) (r : Nat) : Nat := if r = 0 then h else if r = 1 then u.1 else if r = 2 then u.2.1 else if r < 27 then (if r % 3 = 0 then (u.2.2.1 ((r - 3) / 3)).1 else if r % 3 = 1 then (u.2.2.1 ((r - 3) / 3)).2.1 else (u.2.2.1 ((r - 3) / 3)).2.2) else (if (r - 27) % 5 = 0 then (u.2.2.2 ((r - 27) / 5)).1 else if (r - 27) % 5 = 1 then (u.2.2.2 ((r - 27) / 5)).2.1 else if (r - 27) % 5 = 2 then (u.2.2.2 ((r - 27) / 5)).2.2.1 else if (r - 27) % 5 = 3 then (u.2.2.2 ((r - 27) / 5)).2.2.2.1 else (u.2.2.2 ((r - 27) / 5)).2.2.2.2)
abbrev stW' (cy : Nat → ClassId) (A : Nat → Nat) (B h : Nat) (u : StU) : va_W := W3 cy h u.1 u.2.1 (fun j => if j < 8 then some (A (B + 1 + 2 + 3 * j)) else none) (fun j => if j < 4 then some (A (B + 2 + 25 + 5 * j)) else none) ++ (nodesX cy u.2.2.1 8 ++ ledsX cy u.2.2.2 4)
set_option maxHeartbeats 4000000 in
set_option maxRecDepth 100000 in
theorem st_at {cy : Nat → ClassId} {A : Nat → Nat} {G : Nat → Bool} {M : Mem} {B h : Nat} {u : StU} (hB : B % 64 = 0) (hB2 : 64 ≤ B) (hA : ∀ r, r < 47 → A (B + r) = stA h u r) (hF : ∀ r j, r < 47 → gF M (B + r) j = if kd2 r = 0 ∧ j = 0 then nI ((r - 27) / 5) else 0) (hR : ∀ r, r < 47 → gR M (B + r) = fun _ => 0) : ∀ r, r < 47 → (stW' cy A B h u)[r]? = some (A (B + r), cont A cy G M (B + r)) := by
  have hk : ∀ r, r < 47 → kd (B + r) = kd2 r := fun r hr => by rw [kd_ge (by omega), show (B + r) % 64 = r by omega]
  have hl : ∀ r, r < 47 → rl (B + r) = rl2 r := fun r hr => by rw [rl_ge (by omega), show (B + r) % 64 = r by omega]
  intro r hr
  rcases (show r = 0 ∨ r = 1 ∨ r = 2 ∨ r = 3 ∨ r = 4 ∨ r = 5 ∨ r = 6 ∨ r = 7 ∨ r = 8 ∨ r = 9 ∨ r = 10 ∨ r = 11 ∨ r = 12 ∨ r = 13 ∨ r = 14 ∨ r = 15 ∨ r = 16 ∨ r = 17 ∨ r = 18 ∨ r = 19 ∨ r = 20 ∨ r = 21 ∨ r = 22 ∨ r = 23 ∨ r = 24 ∨ r = 25 ∨ r = 26 ∨ r = 27 ∨ r = 28 ∨ r = 29 ∨ r = 30 ∨ r = 31 ∨ r = 32 ∨ r = 33 ∨ r = 34 ∨ r = 35 ∨ r = 36 ∨ r = 37 ∨ r = 38 ∨ r = 39 ∨ r = 40 ∨ r = 41 ∨ r = 42 ∨ r = 43 ∨ r = 44 ∨ r = 45 ∨ r = 46 by omega) with rfl | rfl | rfl | rfl | rfl | rfl | rfl | rfl | rfl | rfl | rfl | rfl | rfl | rfl | rfl | rfl | rfl | rfl | rfl | rfl | rfl | rfl | rfl | rfl | rfl | rfl | rfl | rfl | rfl | rfl | rfl | rfl | rfl | rfl | rfl | rfl | rfl | rfl | rfl | rfl | rfl | rfl | rfl | rfl | rfl | rfl | rfl
  · refine st_e (a := h) (c := .inr (2, [.int 0, .int 0, .int 0, .ref u.1, .ref u.2.1])) rfl (hA 0 (by decide)) ?_
    refine ((cont_2 (hk 0 (by decide))).trans ?_)
    unfold c2L
    rw [(show gF M (B + 0) 0 = 0 from (hF 0 0 (by decide)).trans rfl), (show gF M (B + 0) 1 = 0 from (hF 0 1 (by decide)).trans rfl), (show gF M (B + 0) 2 = 0 from (hF 0 2 (by decide)).trans rfl), (show A (B + 0 + 1) = u.1 from hA 1 (by decide)), (show A (B + 0 + 2) = u.2.1 from hA 2 (by decide))]
  · refine st_e (a := u.1) (c := .inl (cy 2, 8, va_refs (fun j => if j < 8 then some (A (B + 1 + 2 + 3 * j)) else none))) rfl (hA 1 (by decide)) ?_
    exact cont_8 (hk 1 (by decide))
  · refine st_e (a := u.2.1) (c := .inl (cy 1, 4, va_refs (fun j => if j < 4 then some (A (B + 2 + 25 + 5 * j)) else none))) rfl (hA 2 (by decide)) ?_
    exact cont_7 (hk 2 (by decide))
  · refine st_e (a := (u.2.2.1 0).1) (c := .inr (1, [.int 0, .int 0, .int 0, .int 0, .ref (u.2.2.1 0).2.1, .ref (u.2.2.1 0).2.2])) rfl (hA 3 (by decide)) ?_
    refine ((cont_1 (hk 3 (by decide))).trans ?_)
    unfold c1L
    rw [(show gF M (B + 3) 0 = 0 from (hF 3 0 (by decide)).trans rfl), (show gF M (B + 3) 1 = 0 from (hF 3 1 (by decide)).trans rfl), (show gF M (B + 3) 2 = 0 from (hF 3 2 (by decide)).trans rfl), (show gF M (B + 3) 3 = 0 from (hF 3 3 (by decide)).trans rfl), (show A (B + 3 + 1) = (u.2.2.1 0).2.1 from hA 4 (by decide)), (show A (B + 3 + 2) = (u.2.2.1 0).2.2 from hA 5 (by decide))]
  · refine st_e (a := (u.2.2.1 0).2.1) (c := zrow cy 160) rfl (hA 4 (by decide)) ?_
    refine ((cont_6 (hk 4 (by decide))).trans ?_)
    rw [hl 4 (by decide), hR 4 (by decide)]
    rfl
  · refine st_e (a := (u.2.2.1 0).2.2) (c := zrow cy 100) rfl (hA 5 (by decide)) ?_
    refine ((cont_6 (hk 5 (by decide))).trans ?_)
    rw [hl 5 (by decide), hR 5 (by decide)]
    rfl
  · refine st_e (a := (u.2.2.1 1).1) (c := .inr (1, [.int 0, .int 0, .int 0, .int 0, .ref (u.2.2.1 1).2.1, .ref (u.2.2.1 1).2.2])) rfl (hA 6 (by decide)) ?_
    refine ((cont_1 (hk 6 (by decide))).trans ?_)
    unfold c1L
    rw [(show gF M (B + 6) 0 = 0 from (hF 6 0 (by decide)).trans rfl), (show gF M (B + 6) 1 = 0 from (hF 6 1 (by decide)).trans rfl), (show gF M (B + 6) 2 = 0 from (hF 6 2 (by decide)).trans rfl), (show gF M (B + 6) 3 = 0 from (hF 6 3 (by decide)).trans rfl), (show A (B + 6 + 1) = (u.2.2.1 1).2.1 from hA 7 (by decide)), (show A (B + 6 + 2) = (u.2.2.1 1).2.2 from hA 8 (by decide))]
  · refine st_e (a := (u.2.2.1 1).2.1) (c := zrow cy 160) rfl (hA 7 (by decide)) ?_
    refine ((cont_6 (hk 7 (by decide))).trans ?_)
    rw [hl 7 (by decide), hR 7 (by decide)]
    rfl
  · refine st_e (a := (u.2.2.1 1).2.2) (c := zrow cy 100) rfl (hA 8 (by decide)) ?_
    refine ((cont_6 (hk 8 (by decide))).trans ?_)
    rw [hl 8 (by decide), hR 8 (by decide)]
    rfl
  · refine st_e (a := (u.2.2.1 2).1) (c := .inr (1, [.int 0, .int 0, .int 0, .int 0, .ref (u.2.2.1 2).2.1, .ref (u.2.2.1 2).2.2])) rfl (hA 9 (by decide)) ?_
    refine ((cont_1 (hk 9 (by decide))).trans ?_)
    unfold c1L
    rw [(show gF M (B + 9) 0 = 0 from (hF 9 0 (by decide)).trans rfl), (show gF M (B + 9) 1 = 0 from (hF 9 1 (by decide)).trans rfl), (show gF M (B + 9) 2 = 0 from (hF 9 2 (by decide)).trans rfl), (show gF M (B + 9) 3 = 0 from (hF 9 3 (by decide)).trans rfl), (show A (B + 9 + 1) = (u.2.2.1 2).2.1 from hA 10 (by decide)), (show A (B + 9 + 2) = (u.2.2.1 2).2.2 from hA 11 (by decide))]
  · refine st_e (a := (u.2.2.1 2).2.1) (c := zrow cy 160) rfl (hA 10 (by decide)) ?_
    refine ((cont_6 (hk 10 (by decide))).trans ?_)
    rw [hl 10 (by decide), hR 10 (by decide)]
    rfl
  · refine st_e (a := (u.2.2.1 2).2.2) (c := zrow cy 100) rfl (hA 11 (by decide)) ?_
    refine ((cont_6 (hk 11 (by decide))).trans ?_)
    rw [hl 11 (by decide), hR 11 (by decide)]
    rfl
  · refine st_e (a := (u.2.2.1 3).1) (c := .inr (1, [.int 0, .int 0, .int 0, .int 0, .ref (u.2.2.1 3).2.1, .ref (u.2.2.1 3).2.2])) rfl (hA 12 (by decide)) ?_
    refine ((cont_1 (hk 12 (by decide))).trans ?_)
    unfold c1L
    rw [(show gF M (B + 12) 0 = 0 from (hF 12 0 (by decide)).trans rfl), (show gF M (B + 12) 1 = 0 from (hF 12 1 (by decide)).trans rfl), (show gF M (B + 12) 2 = 0 from (hF 12 2 (by decide)).trans rfl), (show gF M (B + 12) 3 = 0 from (hF 12 3 (by decide)).trans rfl), (show A (B + 12 + 1) = (u.2.2.1 3).2.1 from hA 13 (by decide)), (show A (B + 12 + 2) = (u.2.2.1 3).2.2 from hA 14 (by decide))]
  · refine st_e (a := (u.2.2.1 3).2.1) (c := zrow cy 160) rfl (hA 13 (by decide)) ?_
    refine ((cont_6 (hk 13 (by decide))).trans ?_)
    rw [hl 13 (by decide), hR 13 (by decide)]
    rfl
  · refine st_e (a := (u.2.2.1 3).2.2) (c := zrow cy 100) rfl (hA 14 (by decide)) ?_
    refine ((cont_6 (hk 14 (by decide))).trans ?_)
    rw [hl 14 (by decide), hR 14 (by decide)]
    rfl
  · refine st_e (a := (u.2.2.1 4).1) (c := .inr (1, [.int 0, .int 0, .int 0, .int 0, .ref (u.2.2.1 4).2.1, .ref (u.2.2.1 4).2.2])) rfl (hA 15 (by decide)) ?_
    refine ((cont_1 (hk 15 (by decide))).trans ?_)
    unfold c1L
    rw [(show gF M (B + 15) 0 = 0 from (hF 15 0 (by decide)).trans rfl), (show gF M (B + 15) 1 = 0 from (hF 15 1 (by decide)).trans rfl), (show gF M (B + 15) 2 = 0 from (hF 15 2 (by decide)).trans rfl), (show gF M (B + 15) 3 = 0 from (hF 15 3 (by decide)).trans rfl), (show A (B + 15 + 1) = (u.2.2.1 4).2.1 from hA 16 (by decide)), (show A (B + 15 + 2) = (u.2.2.1 4).2.2 from hA 17 (by decide))]
  · refine st_e (a := (u.2.2.1 4).2.1) (c := zrow cy 160) rfl (hA 16 (by decide)) ?_
    refine ((cont_6 (hk 16 (by decide))).trans ?_)
    rw [hl 16 (by decide), hR 16 (by decide)]
    rfl
  · refine st_e (a := (u.2.2.1 4).2.2) (c := zrow cy 100) rfl (hA 17 (by decide)) ?_
    refine ((cont_6 (hk 17 (by decide))).trans ?_)
    rw [hl 17 (by decide), hR 17 (by decide)]
    rfl
  · refine st_e (a := (u.2.2.1 5).1) (c := .inr (1, [.int 0, .int 0, .int 0, .int 0, .ref (u.2.2.1 5).2.1, .ref (u.2.2.1 5).2.2])) rfl (hA 18 (by decide)) ?_
    refine ((cont_1 (hk 18 (by decide))).trans ?_)
    unfold c1L
    rw [(show gF M (B + 18) 0 = 0 from (hF 18 0 (by decide)).trans rfl), (show gF M (B + 18) 1 = 0 from (hF 18 1 (by decide)).trans rfl), (show gF M (B + 18) 2 = 0 from (hF 18 2 (by decide)).trans rfl), (show gF M (B + 18) 3 = 0 from (hF 18 3 (by decide)).trans rfl), (show A (B + 18 + 1) = (u.2.2.1 5).2.1 from hA 19 (by decide)), (show A (B + 18 + 2) = (u.2.2.1 5).2.2 from hA 20 (by decide))]
  · refine st_e (a := (u.2.2.1 5).2.1) (c := zrow cy 160) rfl (hA 19 (by decide)) ?_
    refine ((cont_6 (hk 19 (by decide))).trans ?_)
    rw [hl 19 (by decide), hR 19 (by decide)]
    rfl
  · refine st_e (a := (u.2.2.1 5).2.2) (c := zrow cy 100) rfl (hA 20 (by decide)) ?_
    refine ((cont_6 (hk 20 (by decide))).trans ?_)
    rw [hl 20 (by decide), hR 20 (by decide)]
    rfl
  · refine st_e (a := (u.2.2.1 6).1) (c := .inr (1, [.int 0, .int 0, .int 0, .int 0, .ref (u.2.2.1 6).2.1, .ref (u.2.2.1 6).2.2])) rfl (hA 21 (by decide)) ?_
    refine ((cont_1 (hk 21 (by decide))).trans ?_)
    unfold c1L
    rw [(show gF M (B + 21) 0 = 0 from (hF 21 0 (by decide)).trans rfl), (show gF M (B + 21) 1 = 0 from (hF 21 1 (by decide)).trans rfl), (show gF M (B + 21) 2 = 0 from (hF 21 2 (by decide)).trans rfl), (show gF M (B + 21) 3 = 0 from (hF 21 3 (by decide)).trans rfl), (show A (B + 21 + 1) = (u.2.2.1 6).2.1 from hA 22 (by decide)), (show A (B + 21 + 2) = (u.2.2.1 6).2.2 from hA 23 (by decide))]
  · refine st_e (a := (u.2.2.1 6).2.1) (c := zrow cy 160) rfl (hA 22 (by decide)) ?_
    refine ((cont_6 (hk 22 (by decide))).trans ?_)
    rw [hl 22 (by decide), hR 22 (by decide)]
    rfl
  · refine st_e (a := (u.2.2.1 6).2.2) (c := zrow cy 100) rfl (hA 23 (by decide)) ?_
    refine ((cont_6 (hk 23 (by decide))).trans ?_)
    rw [hl 23 (by decide), hR 23 (by decide)]
    rfl
  · refine st_e (a := (u.2.2.1 7).1) (c := .inr (1, [.int 0, .int 0, .int 0, .int 0, .ref (u.2.2.1 7).2.1, .ref (u.2.2.1 7).2.2])) rfl (hA 24 (by decide)) ?_
    refine ((cont_1 (hk 24 (by decide))).trans ?_)
    unfold c1L
    rw [(show gF M (B + 24) 0 = 0 from (hF 24 0 (by decide)).trans rfl), (show gF M (B + 24) 1 = 0 from (hF 24 1 (by decide)).trans rfl), (show gF M (B + 24) 2 = 0 from (hF 24 2 (by decide)).trans rfl), (show gF M (B + 24) 3 = 0 from (hF 24 3 (by decide)).trans rfl), (show A (B + 24 + 1) = (u.2.2.1 7).2.1 from hA 25 (by decide)), (show A (B + 24 + 2) = (u.2.2.1 7).2.2 from hA 26 (by decide))]
  · refine st_e (a := (u.2.2.1 7).2.1) (c := zrow cy 160) rfl (hA 25 (by decide)) ?_
    refine ((cont_6 (hk 25 (by decide))).trans ?_)
    rw [hl 25 (by decide), hR 25 (by decide)]
    rfl
  · refine st_e (a := (u.2.2.1 7).2.2) (c := zrow cy 100) rfl (hA 26 (by decide)) ?_
    refine ((cont_6 (hk 26 (by decide))).trans ?_)
    rw [hl 26 (by decide), hR 26 (by decide)]
    rfl
  · refine st_e (a := (u.2.2.2 0).1) (c := .inr (0, [.int (nI 0), .int 0, .int 0, .int 0, .int 0, .int 0, .int 0, .int 0, .ref (u.2.2.2 0).2.1, .ref (u.2.2.2 0).2.2.1, .ref (u.2.2.2 0).2.2.2.1, .ref (u.2.2.2 0).2.2.2.2])) rfl (hA 27 (by decide)) ?_
    refine ((cont_0 (hk 27 (by decide))).trans ?_)
    unfold c0L
    rw [(show gF M (B + 27) 0 = nI 0 from (hF 27 0 (by decide)).trans rfl), (show gF M (B + 27) 1 = 0 from (hF 27 1 (by decide)).trans rfl), (show gF M (B + 27) 2 = 0 from (hF 27 2 (by decide)).trans rfl), (show gF M (B + 27) 3 = 0 from (hF 27 3 (by decide)).trans rfl), (show gF M (B + 27) 4 = 0 from (hF 27 4 (by decide)).trans rfl), (show gF M (B + 27) 5 = 0 from (hF 27 5 (by decide)).trans rfl), (show gF M (B + 27) 6 = 0 from (hF 27 6 (by decide)).trans rfl), (show gF M (B + 27) 7 = 0 from (hF 27 7 (by decide)).trans rfl), (show A (B + 27 + 1) = (u.2.2.2 0).2.1 from hA 28 (by decide)), (show A (B + 27 + 2) = (u.2.2.2 0).2.2.1 from hA 29 (by decide)), (show A (B + 27 + 3) = (u.2.2.2 0).2.2.2.1 from hA 30 (by decide)), (show A (B + 27 + 4) = (u.2.2.2 0).2.2.2.2 from hA 31 (by decide))]
  · refine st_e (a := (u.2.2.2 0).2.1) (c := zrow cy 40) rfl (hA 28 (by decide)) ?_
    refine ((cont_6 (hk 28 (by decide))).trans ?_)
    rw [hl 28 (by decide), hR 28 (by decide)]
    rfl
  · refine st_e (a := (u.2.2.2 0).2.2.1) (c := zrow cy 40) rfl (hA 29 (by decide)) ?_
    refine ((cont_6 (hk 29 (by decide))).trans ?_)
    rw [hl 29 (by decide), hR 29 (by decide)]
    rfl
  · refine st_e (a := (u.2.2.2 0).2.2.2.1) (c := zrow cy 41) rfl (hA 30 (by decide)) ?_
    refine ((cont_6 (hk 30 (by decide))).trans ?_)
    rw [hl 30 (by decide), hR 30 (by decide)]
    rfl
  · refine st_e (a := (u.2.2.2 0).2.2.2.2) (c := zrow cy 205) rfl (hA 31 (by decide)) ?_
    refine ((cont_6 (hk 31 (by decide))).trans ?_)
    rw [hl 31 (by decide), hR 31 (by decide)]
    rfl
  · refine st_e (a := (u.2.2.2 1).1) (c := .inr (0, [.int (nI 1), .int 0, .int 0, .int 0, .int 0, .int 0, .int 0, .int 0, .ref (u.2.2.2 1).2.1, .ref (u.2.2.2 1).2.2.1, .ref (u.2.2.2 1).2.2.2.1, .ref (u.2.2.2 1).2.2.2.2])) rfl (hA 32 (by decide)) ?_
    refine ((cont_0 (hk 32 (by decide))).trans ?_)
    unfold c0L
    rw [(show gF M (B + 32) 0 = nI 1 from (hF 32 0 (by decide)).trans rfl), (show gF M (B + 32) 1 = 0 from (hF 32 1 (by decide)).trans rfl), (show gF M (B + 32) 2 = 0 from (hF 32 2 (by decide)).trans rfl), (show gF M (B + 32) 3 = 0 from (hF 32 3 (by decide)).trans rfl), (show gF M (B + 32) 4 = 0 from (hF 32 4 (by decide)).trans rfl), (show gF M (B + 32) 5 = 0 from (hF 32 5 (by decide)).trans rfl), (show gF M (B + 32) 6 = 0 from (hF 32 6 (by decide)).trans rfl), (show gF M (B + 32) 7 = 0 from (hF 32 7 (by decide)).trans rfl), (show A (B + 32 + 1) = (u.2.2.2 1).2.1 from hA 33 (by decide)), (show A (B + 32 + 2) = (u.2.2.2 1).2.2.1 from hA 34 (by decide)), (show A (B + 32 + 3) = (u.2.2.2 1).2.2.2.1 from hA 35 (by decide)), (show A (B + 32 + 4) = (u.2.2.2 1).2.2.2.2 from hA 36 (by decide))]
  · refine st_e (a := (u.2.2.2 1).2.1) (c := zrow cy 40) rfl (hA 33 (by decide)) ?_
    refine ((cont_6 (hk 33 (by decide))).trans ?_)
    rw [hl 33 (by decide), hR 33 (by decide)]
    rfl
  · refine st_e (a := (u.2.2.2 1).2.2.1) (c := zrow cy 40) rfl (hA 34 (by decide)) ?_
    refine ((cont_6 (hk 34 (by decide))).trans ?_)
    rw [hl 34 (by decide), hR 34 (by decide)]
    rfl
  · refine st_e (a := (u.2.2.2 1).2.2.2.1) (c := zrow cy 41) rfl (hA 35 (by decide)) ?_
    refine ((cont_6 (hk 35 (by decide))).trans ?_)
    rw [hl 35 (by decide), hR 35 (by decide)]
    rfl
  · refine st_e (a := (u.2.2.2 1).2.2.2.2) (c := zrow cy 205) rfl (hA 36 (by decide)) ?_
    refine ((cont_6 (hk 36 (by decide))).trans ?_)
    rw [hl 36 (by decide), hR 36 (by decide)]
    rfl
  · refine st_e (a := (u.2.2.2 2).1) (c := .inr (0, [.int (nI 2), .int 0, .int 0, .int 0, .int 0, .int 0, .int 0, .int 0, .ref (u.2.2.2 2).2.1, .ref (u.2.2.2 2).2.2.1, .ref (u.2.2.2 2).2.2.2.1, .ref (u.2.2.2 2).2.2.2.2])) rfl (hA 37 (by decide)) ?_
    refine ((cont_0 (hk 37 (by decide))).trans ?_)
    unfold c0L
    rw [(show gF M (B + 37) 0 = nI 2 from (hF 37 0 (by decide)).trans rfl), (show gF M (B + 37) 1 = 0 from (hF 37 1 (by decide)).trans rfl), (show gF M (B + 37) 2 = 0 from (hF 37 2 (by decide)).trans rfl), (show gF M (B + 37) 3 = 0 from (hF 37 3 (by decide)).trans rfl), (show gF M (B + 37) 4 = 0 from (hF 37 4 (by decide)).trans rfl), (show gF M (B + 37) 5 = 0 from (hF 37 5 (by decide)).trans rfl), (show gF M (B + 37) 6 = 0 from (hF 37 6 (by decide)).trans rfl), (show gF M (B + 37) 7 = 0 from (hF 37 7 (by decide)).trans rfl), (show A (B + 37 + 1) = (u.2.2.2 2).2.1 from hA 38 (by decide)), (show A (B + 37 + 2) = (u.2.2.2 2).2.2.1 from hA 39 (by decide)), (show A (B + 37 + 3) = (u.2.2.2 2).2.2.2.1 from hA 40 (by decide)), (show A (B + 37 + 4) = (u.2.2.2 2).2.2.2.2 from hA 41 (by decide))]
  · refine st_e (a := (u.2.2.2 2).2.1) (c := zrow cy 40) rfl (hA 38 (by decide)) ?_
    refine ((cont_6 (hk 38 (by decide))).trans ?_)
    rw [hl 38 (by decide), hR 38 (by decide)]
    rfl
  · refine st_e (a := (u.2.2.2 2).2.2.1) (c := zrow cy 40) rfl (hA 39 (by decide)) ?_
    refine ((cont_6 (hk 39 (by decide))).trans ?_)
    rw [hl 39 (by decide), hR 39 (by decide)]
    rfl
  · refine st_e (a := (u.2.2.2 2).2.2.2.1) (c := zrow cy 41) rfl (hA 40 (by decide)) ?_
    refine ((cont_6 (hk 40 (by decide))).trans ?_)
    rw [hl 40 (by decide), hR 40 (by decide)]
    rfl
  · refine st_e (a := (u.2.2.2 2).2.2.2.2) (c := zrow cy 205) rfl (hA 41 (by decide)) ?_
    refine ((cont_6 (hk 41 (by decide))).trans ?_)
    rw [hl 41 (by decide), hR 41 (by decide)]
    rfl
  · refine st_e (a := (u.2.2.2 3).1) (c := .inr (0, [.int (nI 3), .int 0, .int 0, .int 0, .int 0, .int 0, .int 0, .int 0, .ref (u.2.2.2 3).2.1, .ref (u.2.2.2 3).2.2.1, .ref (u.2.2.2 3).2.2.2.1, .ref (u.2.2.2 3).2.2.2.2])) rfl (hA 42 (by decide)) ?_
    refine ((cont_0 (hk 42 (by decide))).trans ?_)
    unfold c0L
    rw [(show gF M (B + 42) 0 = nI 3 from (hF 42 0 (by decide)).trans rfl), (show gF M (B + 42) 1 = 0 from (hF 42 1 (by decide)).trans rfl), (show gF M (B + 42) 2 = 0 from (hF 42 2 (by decide)).trans rfl), (show gF M (B + 42) 3 = 0 from (hF 42 3 (by decide)).trans rfl), (show gF M (B + 42) 4 = 0 from (hF 42 4 (by decide)).trans rfl), (show gF M (B + 42) 5 = 0 from (hF 42 5 (by decide)).trans rfl), (show gF M (B + 42) 6 = 0 from (hF 42 6 (by decide)).trans rfl), (show gF M (B + 42) 7 = 0 from (hF 42 7 (by decide)).trans rfl), (show A (B + 42 + 1) = (u.2.2.2 3).2.1 from hA 43 (by decide)), (show A (B + 42 + 2) = (u.2.2.2 3).2.2.1 from hA 44 (by decide)), (show A (B + 42 + 3) = (u.2.2.2 3).2.2.2.1 from hA 45 (by decide)), (show A (B + 42 + 4) = (u.2.2.2 3).2.2.2.2 from hA 46 (by decide))]
  · refine st_e (a := (u.2.2.2 3).2.1) (c := zrow cy 40) rfl (hA 43 (by decide)) ?_
    refine ((cont_6 (hk 43 (by decide))).trans ?_)
    rw [hl 43 (by decide), hR 43 (by decide)]
    rfl
  · refine st_e (a := (u.2.2.2 3).2.2.1) (c := zrow cy 40) rfl (hA 44 (by decide)) ?_
    refine ((cont_6 (hk 44 (by decide))).trans ?_)
    rw [hl 44 (by decide), hR 44 (by decide)]
    rfl
  · refine st_e (a := (u.2.2.2 3).2.2.2.1) (c := zrow cy 41) rfl (hA 45 (by decide)) ?_
    refine ((cont_6 (hk 45 (by decide))).trans ?_)
    rw [hl 45 (by decide), hR 45 (by decide)]
    rfl
  · refine st_e (a := (u.2.2.2 3).2.2.2.2) (c := zrow cy 205) rfl (hA 46 (by decide)) ?_
    refine ((cont_6 (hk 46 (by decide))).trans ?_)
    rw [hl 46 (by decide), hR 46 (by decide)]
    rfl
