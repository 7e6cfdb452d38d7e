/-! the law's walk from its entry, for runs of the mirror that come to an end -/
theorem noTrace {l : Launch} (h : l.flags = flags0) : l.stackTraces = false := by
  unfold Launch.stackTraces
  rw [h]
  decide
set_option maxHeartbeats 4000000 in
set_option maxRecDepth 100000 in
theorem walk_of {p : Program} {e : Env} {s : State} {m : MethodId} {below : List Frame} {meth : Method} {c : Code} (l : Launch) (hflags : l.flags = flags0) {b L : Nat} {xs : Nat → Int32} (hL : L ≤ 2048) (C0 : lw_At p s m meth c b L xs) (hrun : ∃ q, lawRun xs (L / 4) 0 G0 M0 = some q) : W p l e room_1 s m #[Value.ref b] below meth c s.heap [] 0 0 (lw_Z below #[Value.ref b] s) (entryFrame m ([Value.ref b] : List Value).toArray 8) := by
  obtain ⟨hx, hb, hr, hml, hown, hts0, hX, hbl, hlocks, hgv⟩ := id C0
  obtain ⟨q, hrun⟩ := hrun
  have hts : ∀ w ∈ LW, w.before #[Value.ref b] s = true := fun w h => hts0 w (List.mem_filter.mp h).1
  have hfl := noTrace hflags
  obtain ⟨D, cy, hK⟩ := law_KK hts0
  have hR := law_SR hts0
  have hT := law_XT hts0 hgv
  have hN := law_Nc (args := #[Value.ref b]) hgv
  have hA : ∀ q : Nat, s.heap.size ≤ q → LAs s q := fun _ h => h
  have hS : va_S (LAs s) s.heap s.heap [] := va_S.rf
  have hP : va_P D vwCl [] s.heap := fun k q h => by simp at h
  have hD : va_D (LAs s) [] := ⟨fun i j p q h => by simp at h, fun k q h => by simp at h⟩
  have hb : c.code = cL_law := hb
  have hown : s.vm.findClass RL = some m.cls := hown
  have hl := lv_entry ([.ref b]) (n := 8) (Nat.le_of_ble_eq_true rfl)
  rw [lg_entry_eq]
  generalize (lg_sl ([.ref b]) ++ List.replicate (8 - (lg_sl ([.ref b])).length) Slot.unset).toArray = ls at hl ⊢
  have hl : lv_has ls 8 [(0, .ref b)] := hl
  refine va_new (ci := 4) (fs := [.null, .null]) (C := RX5) (T := TX5) (N := 2) hx hb hts iwX5 tyX5 tyX5_ok hown (hts _ k_cl_RL_8) (hts _ k_it_RX5) (hts _ k_in_RX5) hK.1 hP hD hS hA rfl (fun j hj => by rcases (show j = 0 ∨ j = 1 by omega) with rfl | rfl <;> rfl) (Nat.le_of_ble_eq_true rfl) (Nat.le_of_ble_eq_true rfl) dL_law_0 (fun h5 H hP hD hS => ?_)
  refine lv_dup hx hb dL_law_3 rfl ?_
  refine kc hP hD hS hA (va_runI (As := []) (rest := [.ref h5]) ⟨hx, hb, hml, hown, hts⟩ (c_X5_init l (D := D) (cy := cy) (h := h5) (sz := H.size)) (mkI 0 hts k_ml_RL_91 k_im_yX5_init k_in_RX5 k_co_yX5_init rfl hd_X5_init ⟨Nat.le_of_ble_eq_true rfl, Nat.le_of_ble_eq_true rfl⟩) ⟨PrW.blind, preW hK (lastP hP) (lastD hD) rfl⟩ rfl rfl hl.1 rfl (lv_room (pc := 4) (ls := ls) (rest := [.ref h5, .ref h5]) (m := m) (Nat.le_of_ble_eq_true rfl)) dL_law_4 ⟨Nat.le_of_ble_eq_true rfl, Nat.le_of_ble_eq_true rfl⟩) (fun u H locs _ hP hD hS => ?_)
  obtain ⟨hs, u, hu, r⟩ := u
  refine lv_astore_n (lv' := [(1, .ref h5), (0, .ref b)]) hx hb dL_law_7 rfl hl (by decide) rfl (fun ls hl => ?_)
  refine va_new (ci := 5) (fs := [.null, .null, .int 0, .int 0, .long 0]) (C := RX6) (T := TX6) (N := 5) hx hb hts iwX6 tyX6 tyX6_ok hown (hts _ k_cl_RL_92) (hts _ k_it_RX6) (hts _ k_in_RX6) hK.1 hP hD hS hA rfl (fun j hj => by rcases (show j = 0 ∨ j = 1 ∨ j = 2 ∨ j = 3 ∨ j = 4 by omega) with rfl | rfl | rfl | rfl | rfl <;> rfl) (Nat.le_of_ble_eq_true rfl) (Nat.le_of_ble_eq_true rfl) dL_law_8 (fun hm6 H hP hD hS => ?_)
  refine lv_dup hx hb dL_law_11 rfl ?_
  refine kc hP hD hS hA (va_runI (As := []) (rest := [.ref hm6]) ⟨hx, hb, hml, hown, hts⟩ (c_X6_init l (D := D) (cy := cy) (h := hm6) (sz := H.size)) (mkI 0 hts k_ml_RL_94 k_im_yX6_init k_in_RX6 k_co_yX6_init rfl hd_X6_init ⟨Nat.le_of_ble_eq_true rfl, Nat.le_of_ble_eq_true rfl⟩) ⟨PrW.blind, preW hK (lastP hP) (lastD hD) rfl⟩ rfl rfl hl.1 rfl (lv_room (pc := 12) (ls := ls) (rest := [.ref hm6, .ref hm6]) (m := m) (Nat.le_of_ble_eq_true rfl)) dL_law_12 ⟨Nat.le_of_ble_eq_true rfl, Nat.le_of_ble_eq_true rfl⟩) (fun v H locs _ hP hD hS => ?_)
  obtain ⟨us, up⟩ := v
  refine lv_astore_n (lv' := [(2, .ref hm6), (1, .ref h5), (0, .ref b)]) hx hb dL_law_15 rfl hl (by decide) rfl (fun ls hl => ?_)
  refine lv_iconst (v := 1) hx hb dL_law_16 rfl ?_
  refine va_newa (atype := .long) (ty := .long) (a0 := (1, .inr (.inl (fun _ => 0)))) hx hb (hts _ k_ac_long) rfl hK.1 hP hD hS hA (fun _ => rfl) (by decide) (by decide) (Nat.le_of_ble_eq_true rfl) (Nat.le_of_ble_eq_true rfl) (Nat.le_of_ble_eq_true rfl) dL_law_17 (fun ql cA H hK1 hP hD hS => ?_)
  obtain rfl : cA = cy 4 := by
    have h1 := (hK1.2 6 (cA, .long) rfl).2
    have h0 := (hK.1.2 4 (cy 4, .long) rfl).2
    exact Option.some.inj ((show s.vm.findClass ("[" ++ FieldType.long.toString) = some cA from h1).symm.trans h0)
  refine lv_astore_n (lv' := [(3, .ref ql), (2, .ref hm6), (1, .ref h5), (0, .ref b)]) hx hb dL_law_19 rfl hl (by decide) rfl (fun ls hl => ?_)
  refine lv_iconst (v := 1) hx hb dL_law_20 rfl ?_
  refine va_newa (atype := .double) (ty := .double) (a0 := (1, .inr (.inr (.inr (.inl (fun _ => 0)))))) hx hb (hts _ k_ac_double) rfl hK.1 hP hD hS hA (fun _ => rfl) (by decide) (by decide) (Nat.le_of_ble_eq_true rfl) (Nat.le_of_ble_eq_true rfl) (Nat.le_of_ble_eq_true rfl) dL_law_21 (fun qd cA H hK1 hP hD hS => ?_)
  obtain rfl : cA = cy 5 := by
    have h1 := (hK1.2 6 (cA, .double) rfl).2
    have h0 := (hK.1.2 5 (cy 5, .double) rfl).2
    exact Option.some.inj ((show s.vm.findClass ("[" ++ FieldType.double.toString) = some cA from h1).symm.trans h0)
  refine lv_astore (lv' := [(4, .ref qd), (3, .ref ql), (2, .ref hm6), (1, .ref h5), (0, .ref b)]) hx hb dL_law_23 hl (by decide) rfl (fun ls hl => ?_)
  refine lv_iconst (v := 0) hx hb dL_law_25 rfl ?_
  refine lv_istore (lv' := [(5, .int 0), (4, .ref qd), (3, .ref ql), (2, .ref hm6), (1, .ref h5), (0, .ref b)]) hx hb dL_law_26 hl (by decide) rfl (fun ls hl => ?_)
  obtain ⟨x, hx0, hx1, hx2, hx3, hx4, hx5, hx6, hx7, hx64⟩ : ∃ x : Nat → Nat, x 0 = h5 ∧ x 1 = hu ∧ x 2 = r ∧ x 3 = hm6 ∧ x 4 = us ∧ x 5 = up ∧ x 6 = ql ∧ x 7 = qd ∧ x 64 = hs :=
    ⟨fun k => if k = 0 then h5 else if k = 1 then hu else if k = 2 then r else if k = 3 then hm6 else if k = 4 then us else if k = 5 then up else if k = 6 then ql else if k = 7 then qd else hs, rfl, rfl, rfl, rfl, rfl, rfl, rfl, rfl, rfl⟩
  subst hx0 hx1 hx2 hx3 hx4 hx5 hx6 hx7 hx64
  obtain ⟨hP, hD⟩ := entry_world (x := x) (u := u) (H := H) rfl (by simpa only [x5W, List.nil_append, List.cons_append, List.append_assoc] using hP) (by simpa only [x5W, List.nil_append, List.cons_append, List.append_assoc] using hD)
  have hLC : LC p l s m c b L xs D cy := ⟨hx, hb, hml, hown, hts, hK, hR, hT, hN, hX, hbl, hL, hfl⟩
  refine law_loop hLC (fun H locs cells slots ls hc hs hq => ?_) (L / 4) 0 H locs _ _ (A0 x u) G0 M0 ls q (by omega) (by omega) (by omega) (by omega) ⟨hP, hD, hS⟩ (lv_sub hl [0, 5, 4, 3, 2, 1] rfl) hrun
  refine lv_iconst (v := 1) hx hb dL_law_1695 rfl ?_
  refine va_forget hq ?_
  refine W.widen hc hs ?_
  exact lw_ret (Drawn.sameBut.refl s.drawn lw_cs) hx hb hr hlocks dL_law_1696
