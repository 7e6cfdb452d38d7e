/-! the store's constructor -/
abbrev XU : Type := Nat × StU × Nat × Nat
abbrev x5W (cy : Nat → ClassId) (h : Nat) (u : XU) : va_W := (h, .inr (4, [.ref u.1, .ref u.2.2.1])) :: (stW cy u.1 u.2.1 ++ [(u.2.2.1, .inr (3, [.int 0, .int 0, .ref u.2.2.2])), (u.2.2.2, .inl (cy 3, 4, va_refs (fun _ => none)))])
set_option maxHeartbeats 4000000 in
set_option maxRecDepth 100000 in
theorem c_X5_init (l : Launch) {D : va_G} {cy : Nat → ClassId} {h sz : Nat} : Met l yX5_init (wm yX5_init cX5_init 1 none) ({ frames := 3, cells := 49, slots := 3504, locals := 110 } : Room) (va_Pc [.ref h] (PrW D cy [(h, bX)] sz)) (va_Qv (fun _ : XU => True) (fun u t => va_P D vwCl (x5W cy h u) t.heap ∧ va_D (va_A [(h, bX)] sz) (x5W cy h u)) (va_A [(h, bX)] sz)) 49 3504 (va_A [(h, bX)] sz) := by
  refine ofC (Qc := fun sz => va_Qv (fun _ : XU => True) (fun u t => va_P D vwCl (x5W cy h u) t.heap ∧ va_D (va_A [(h, bX)] sz) (x5W cy h u)) (va_A [(h, bX)] sz)) (by decide +kernel) (Nat.le_of_ble_eq_true rfl) ?_
  intro p e s m below meth c hx hb hr hts hown hlocks hml hin hK hP hD ls hl
  have hin : meth.name = "<init>" := hin
  have hl : lv_has ls 1 [(0, .ref h)] := hl
  have hS : va_S (va_A [(h, bX)] s.heap.size) s.heap s.heap [] := va_S.rf
  refine lv_aload_n hx hb dX5_init_0 rfl (lv_at hl 0 rfl) ?_
  refine W.objInit hx hb hown (hts _ k_ml_RX5_3) (hts _ k_im_objectInit) (hts _ k_co_objectInit) rfl (by rw [hml]; exact hl.1) rfl dX5_init_1 (Nat.le_of_ble_eq_true rfl) (Nat.le_of_ble_eq_true rfl) ?_
  refine lv_aload_n hx hb dX5_init_4 rfl (lv_at hl 0 rfl) ?_
  refine va_new (ci := 2) (fs := [.int 0, .int 0, .int 0, .null, .null]) (C := RX3) (T := TX3) (N := 5) hx hb hts iwX3 tyX3 tyX3_ok hown (hts _ k_cl_RX5_9) (hts _ k_it_RX3) (hts _ k_in_RX3) hK.1 hP hD hS A_hi rfl (fun j hj => by rcases (show j = 0 ∨ j = 1 ∨ j = 2 ∨ j = 3 ∨ j = 4 by omega) with rfl | rfl | rfl | rfl | rfl <;> rfl) (Nat.le_of_ble_eq_true rfl) (Nat.le_of_ble_eq_true rfl) dX5_init_5 (fun hs H hP hD hS => ?_)
  refine lv_dup hx hb dX5_init_8 rfl ?_
  refine kc hP hD hS A_hi (va_runI (As := []) (rest := [.ref hs, .ref h]) ⟨hx, hb, hml, hown, hts⟩ (c_X3_init l (D := D) (cy := cy) (h := hs) (sz := H.size)) (mkI 0 hts k_ml_RX5_11 k_im_yX3_init k_in_RX3 k_co_yX3_init rfl hd_X3_init ⟨Nat.le_of_ble_eq_true rfl, Nat.le_of_ble_eq_true rfl⟩) ⟨PrW.blind, preW hK (lastP hP) (lastD hD) rfl⟩ rfl rfl hl.1 rfl (lv_room (pc := 9) (ls := ls) (rest := [.ref hs, .ref hs, .ref h]) (m := m) (Nat.le_of_ble_eq_true rfl)) dX5_init_9 ⟨Nat.le_of_ble_eq_true rfl, Nat.le_of_ble_eq_true rfl⟩) (fun u H locs _ hP hD hS => ?_)
  refine va_putF (ci := 4) (v := .ref hs) (ty := .object "LedgerStore$State") (C := RX5) (T := TX5) (N := 2) hx hb hts iwX5 tyX5 tyX5_ok nmX5 hown hK.1 hP hD hS 0 rfl rfl 0 (by decide) (hts _ k_fl_RX5_12) (fun _ h => h) rfl hin rfl (by decide +kernel) rfl rfl (Nat.le_of_ble_eq_true rfl) dX5_init_12 (fun H locs hP hD hS => ?_)
  have hP : va_P D vwCl ((h, .inr (4, [.ref hs, .null])) :: stW cy hs u) H := hP
  have hD : va_D (va_A [(h, bX)] s.heap.size) ((h, .inr (4, [.ref hs, .null])) :: stW cy hs u) := hD
  refine lv_aload_n hx hb dX5_init_15 rfl (lv_at hl 0 rfl) ?_
  refine va_new (ci := 3) (fs := [.int 0, .int 0, .null]) (C := RX4) (T := TX4) (N := 3) hx hb hts iwX4 tyX4 tyX4_ok hown (hts _ k_cl_RX5_16) (hts _ k_it_RX4) (hts _ k_in_RX4) hK.1 hP hD hS A_hi rfl (fun j hj => by rcases (show j = 0 ∨ j = 1 ∨ j = 2 by omega) with rfl | rfl | rfl <;> rfl) (Nat.le_of_ble_eq_true rfl) (Nat.le_of_ble_eq_true rfl) dX5_init_16 (fun hu H hP hD hS => ?_)
  refine lv_dup hx hb dX5_init_19 rfl ?_
  refine kc hP hD hS A_hi (va_runIN (As := []) (rest := [.ref hu, .ref h]) ⟨hx, hb, hml, hown, hts⟩ (c_X4_init l (D := D) (cy := cy) (h := hu) (sz := H.size)) (mkIN 0 hts hK.2.1 k_im_yX4_init k_in_RX4 k_co_yX4_init rfl hd_X4_init ⟨Nat.le_of_ble_eq_true rfl, Nat.le_of_ble_eq_true rfl⟩) ⟨PrW.blind, preW hK (lastP hP) (lastD hD) rfl⟩ rfl rfl hl.1 rfl (lv_room (pc := 20) (ls := ls) (rest := [.ref hu, .ref hu, .ref h]) (m := m) (Nat.le_of_ble_eq_true rfl)) dX5_init_20 ⟨Nat.le_of_ble_eq_true rfl, Nat.le_of_ble_eq_true rfl⟩) (fun r H locs _ hP hD hS => ?_)
  refine va_putF (ci := 4) (v := .ref hu) (ty := .object "LedgerStore$UndoStack") (C := RX5) (T := TX5) (N := 2) hx hb hts iwX5 tyX5 tyX5_ok nmX5 hown hK.1 hP hD hS 0 rfl rfl 1 (by decide) (hts _ k_fl_RX5_19) (fun _ h => h) rfl hin rfl (by decide +kernel) rfl rfl (Nat.le_of_ble_eq_true rfl) dX5_init_23 (fun H locs hP hD hS => ?_)
  have hP : va_P D vwCl (x5W cy h (hs, u, hu, r)) H := hP
  have hD : va_D (va_A [(h, bX)] s.heap.size) (x5W cy h (hs, u, hu, r)) := hD
  exact W.vret hx hb hr (fun t ht hW => ⟨⟨(hs, u, hu, r), rfl, trivial, by rw [ht]; exact hP, hD⟩, hS.F ht⟩) hS.2.2 dX5_init_26 hlocks
