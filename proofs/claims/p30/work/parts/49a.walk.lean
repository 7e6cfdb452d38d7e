set_option maxHeartbeats 4000000 in
set_option maxRecDepth 100000 in
theorem walk_of {p : Program} {e : Env} {s : State} {m : MethodId} {below : List Frame} {meth : Method} {c : Code} (l : Launch) (hflags : l.flags = flags0) {b L : Nat} {xs : Nat → Int32} (hL : L ≤ 260) (C0 : lw_At p s m meth c b L xs) (hrun : m_L_law L xs 0 G0 M0 = some 1) : W p l e room_1 s m #[Value.ref b] below meth c s.heap [] 0 0 (lw_Z below #[Value.ref b] s) (entryFrame m ([Value.ref b] : List Value).toArray 21) := by
  obtain ⟨hx, hb, hr, hml, hown, hts0, hX, hbl, hlocks, hgv⟩ := id C0
  have hts : ∀ w ∈ LW, w.before #[Value.ref b] s = true := fun w h => hts0 w (List.mem_filter.mp h).1
  obtain ⟨D, cy, hK⟩ := law_KK hts0
  have hA : ∀ q : Nat, s.heap.size ≤ q → LAs s q := fun _ h => h
  have hS : va_S (LAs s) s.heap s.heap [] := va_S.rf
  have hP : va_P D vwCl [] s.heap := fun k q h => by simp at h
  have hD : va_D (LAs s) [] := ⟨fun i j p q h => by simp at h, fun k q h => by simp at h⟩
  have hb : c.code = cL_law := hb
  have hown : s.vm.findClass RL = some m.cls := hown
  have hl := lv_entry ([.ref b]) (n := 21) (Nat.le_of_ble_eq_true rfl)
  rw [lg_entry_eq]
  generalize (lg_sl ([.ref b]) ++ List.replicate (21 - (lg_sl ([.ref b])).length) Slot.unset).toArray = ls at hl ⊢
  have hl : lv_has ls 21 [(0, .ref b)] := hl
  refine va_new (ci := 4) (fs := [.null, .null]) (C := RX5) (T := TX5) (N := 2) hx hb hts iwX5 tyX5 tyX5_ok hown (hts _ k_cl_RL_9) (hts _ k_it_RX5) (hts _ k_in_RX5) hK.1 hP hD hS hA rfl (fun j hj => by rcases (show j = 0 ∨ j = 1 by omega) with rfl | rfl <;> rfl) (Nat.le_of_ble_eq_true rfl) (Nat.le_of_ble_eq_true rfl) dL_law_0 (fun h5 H hP hD hS => ?_)
  refine lv_dup hx hb dL_law_3 rfl ?_
  refine kc hP hD hS hA (va_runI (As := []) (rest := [.ref h5]) ⟨hx, hb, hml, hown, hts⟩ (c_X5_init l (D := D) (cy := cy) (h := h5) (sz := H.size)) (mkI 0 hts k_ml_RL_77 k_im_yX5_init k_in_RX5 k_co_yX5_init rfl hd_X5_init ⟨Nat.le_of_ble_eq_true rfl, Nat.le_of_ble_eq_true rfl⟩) ⟨PrW.blind, preW hK (lastP hP) (lastD hD) rfl⟩ rfl rfl hl.1 rfl (lv_room (pc := 4) (ls := ls) (rest := [.ref h5, .ref h5]) (m := m) (Nat.le_of_ble_eq_true rfl)) dL_law_4 ⟨Nat.le_of_ble_eq_true rfl, Nat.le_of_ble_eq_true rfl⟩) (fun u H locs _ hP hD hS => ?_)
  obtain ⟨hs, u, hu, r⟩ := u
  refine lv_astore_n (lv' := [(1, .ref h5), (0, .ref b)]) hx hb dL_law_7 rfl hl (by decide) rfl (fun ls hl => ?_)
  obtain ⟨x, hx0, hx1, hx2, hx64⟩ : ∃ x : Nat → Nat, x 0 = h5 ∧ x 1 = hu ∧ x 2 = r ∧ x 64 = hs :=
    ⟨fun k => if k = 0 then h5 else if k = 1 then hu else if k = 2 then r else hs, rfl, rfl, rfl, rfl⟩
  subst hx0 hx1 hx2 hx64
  obtain ⟨hP, hD⟩ := entry_world (x := x) (u := u) (H := H) rfl (by simpa only [x5W, List.nil_append, List.cons_append, List.append_assoc] using hP) (by simpa only [x5W, List.nil_append, List.cons_append, List.append_assoc] using hD)
  have hLC : LC p l s m meth c b L xs D cy := ⟨hx, hb, hr, hlocks, hml, hown, hts, hK, hX, hbl, hL⟩
  refine LJ_8 hLC 0 G0 M0 ⟨rfl, sm_in (by omega)⟩ (A0 x u) hrun _ _ ?_ H locs ⟨hP, hD, hS⟩ ls (lv_sub hl [1, 0] rfl)
  exact ⟨by omega, by omega⟩
