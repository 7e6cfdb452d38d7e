set_option maxHeartbeats 4000000 in
set_option maxRecDepth 100000 in
theorem c_X0_init (l : Launch) {D : va_G} {cy : Nat → ClassId} {h sz : Nat} (x : Int32) : Met l yX0_init (wm yX0_init cX0_init 2 none) ({ frames := 1, cells := 4, slots := 326, locals := 40 } : Room) (va_Pc [.ref h, .int x] (PrW D cy [(h, bL)] sz)) (va_Qv (fun _ : Nat × Nat × Nat × Nat => True) (fun u t => va_P D vwCl (ledL cy x h u.1 u.2.1 u.2.2.1 u.2.2.2) t.heap ∧ va_D (va_A [(h, bL)] sz) (ledL cy x h u.1 u.2.1 u.2.2.1 u.2.2.2)) (va_A [(h, bL)] sz)) 4 326 (va_A [(h, bL)] sz) := by
  refine ofC (Qc := fun sz => va_Qv (fun _ : Nat × Nat × Nat × Nat => True) (fun u t => va_P D vwCl (ledL cy x h u.1 u.2.1 u.2.2.1 u.2.2.2) t.heap ∧ va_D (va_A [(h, bL)] sz) (ledL cy x h u.1 u.2.1 u.2.2.1 u.2.2.2)) (va_A [(h, bL)] sz)) (by decide +kernel) (Nat.le_of_ble_eq_true rfl) ?_
  intro p e s m below meth c hx hb hr hts hown hlocks hml hin hK hP hD ls hl
  have hin : meth.name = "<init>" := hin
  have hl : lv_has ls 2 [(0, .ref h), (1, .int x)] := hl
  have hS : va_S (va_A [(h, bL)] s.heap.size) s.heap s.heap [] := va_S.rf
  refine lv_aload_n hx hb dX0_init_0 rfl (lv_at hl 0 rfl) ?_
  refine W.objInit hx hb hown (hts _ k_ml_RX0_3) (hts _ k_im_objectInit) (hts _ k_co_objectInit) rfl (by rw [hml]; exact hl.1) rfl dX0_init_1 (Nat.le_of_ble_eq_true rfl) (Nat.le_of_ble_eq_true rfl) ?_
  refine lv_aload_n hx hb dX0_init_4 rfl (lv_at hl 0 rfl) ?_
  refine lv_bipush (v := 40) hx hb dX0_init_5 (by decide) ?_
  refine nwI (N := 40) hx hb hts hK hP hD hS A_hi (by decide) (by decide) (Nat.le_of_ble_eq_true rfl) (Nat.le_of_ble_eq_true rfl) (Nat.le_of_ble_eq_true rfl) dX0_init_7 (fun q1 H hP hD hS => ?_)
  refine va_putF (ci := 0) (v := .ref q1) (ty := .array .int) (C := RX0) (T := TX0) (N := 12) hx hb hts iwX0 tyX0 tyX0_ok nmX0 hown hK.1 hP hD hS 0 rfl rfl 8 (by decide) (hts _ k_fl_RX0_9) (fun _ h => h) rfl hin rfl (by decide +kernel) rfl rfl (Nat.le_of_ble_eq_true rfl) dX0_init_9 (fun H locs hP hD hS => ?_)
  refine lv_aload_n hx hb dX0_init_12 rfl (lv_at hl 0 rfl) ?_
  refine lv_bipush (v := 40) hx hb dX0_init_13 (by decide) ?_
  refine nwI (N := 40) hx hb hts hK hP hD hS A_hi (by decide) (by decide) (Nat.le_of_ble_eq_true rfl) (Nat.le_of_ble_eq_true rfl) (Nat.le_of_ble_eq_true rfl) dX0_init_15 (fun q2 H hP hD hS => ?_)
  refine va_putF (ci := 0) (v := .ref q2) (ty := .array .int) (C := RX0) (T := TX0) (N := 12) hx hb hts iwX0 tyX0 tyX0_ok nmX0 hown hK.1 hP hD hS 0 rfl rfl 9 (by decide) (hts _ k_fl_RX0_15) (fun _ h => h) rfl hin rfl (by decide +kernel) rfl rfl (Nat.le_of_ble_eq_true rfl) dX0_init_17 (fun H locs hP hD hS => ?_)
  refine lv_aload_n hx hb dX0_init_20 rfl (lv_at hl 0 rfl) ?_
  refine lv_bipush (v := 41) hx hb dX0_init_21 (by decide) ?_
  refine nwI (N := 41) hx hb hts hK hP hD hS A_hi (by decide) (by decide) (Nat.le_of_ble_eq_true rfl) (Nat.le_of_ble_eq_true rfl) (Nat.le_of_ble_eq_true rfl) dX0_init_23 (fun q3 H hP hD hS => ?_)
  refine va_putF (ci := 0) (v := .ref q3) (ty := .array .int) (C := RX0) (T := TX0) (N := 12) hx hb hts iwX0 tyX0 tyX0_ok nmX0 hown hK.1 hP hD hS 0 rfl rfl 10 (by decide) (hts _ k_fl_RX0_18) (fun _ h => h) rfl hin rfl (by decide +kernel) rfl rfl (Nat.le_of_ble_eq_true rfl) dX0_init_25 (fun H locs hP hD hS => ?_)
  refine lv_aload_n hx hb dX0_init_28 rfl (lv_at hl 0 rfl) ?_
  refine lv_sipush (v := 205) hx hb dX0_init_29 (by decide) ?_
  refine nwI (N := 205) hx hb hts hK hP hD hS A_hi (by decide) (by decide) (Nat.le_of_ble_eq_true rfl) (Nat.le_of_ble_eq_true rfl) (Nat.le_of_ble_eq_true rfl) dX0_init_32 (fun q4 H hP hD hS => ?_)
  refine va_putF (ci := 0) (v := .ref q4) (ty := .array .int) (C := RX0) (T := TX0) (N := 12) hx hb hts iwX0 tyX0 tyX0_ok nmX0 hown hK.1 hP hD hS 0 rfl rfl 11 (by decide) (hts _ k_fl_RX0_21) (fun _ h => h) rfl hin rfl (by decide +kernel) rfl rfl (Nat.le_of_ble_eq_true rfl) dX0_init_34 (fun H locs hP hD hS => ?_)
  refine lv_aload_n hx hb dX0_init_37 rfl (lv_at hl 0 rfl) ?_
  refine lv_iload_n hx hb dX0_init_38 rfl (lv_at hl 1 rfl) ?_
  refine va_putF (ci := 0) (v := .int x) (ty := .int) (C := RX0) (T := TX0) (N := 12) hx hb hts iwX0 tyX0 tyX0_ok nmX0 hown hK.1 hP hD hS 0 rfl rfl 0 (by decide) (hts _ k_fl_RX0_24) (fun _ h => h) rfl hin rfl (by decide +kernel) rfl rfl (Nat.le_of_ble_eq_true rfl) dX0_init_39 (fun H locs hP hD hS => ?_)
  have hP : va_P D vwCl (ledL cy x h q1 q2 q3 q4) H := hP
  have hD : va_D (va_A [(h, bL)] s.heap.size) (ledL cy x h q1 q2 q3 q4) := hD
  exact W.vret hx hb hr (fun t ht hW => ⟨⟨(q1, q2, q3, q4), rfl, trivial, by rw [ht]; exact hP, hD⟩, hS.F ht⟩) hS.2.2 dX0_init_42 hlocks
theorem tyQ {D : va_G} {cy : Nat → ClassId} {s : State} {k : Nat} {cA : ClassId} {C : String} (hK : KK D cy s) (h0 : (tyK cy)[k]? = some (cy k, .object C)) (h : va_RA s cA (.object C)) : cA = cy k := by
  obtain ⟨_, _, _, _, _, h1⟩ := h
  obtain ⟨_, _, _, _, _, h2⟩ := (hK.1.2 k _ h0).2
  exact Option.some.inj (h1.symm.trans h2)
set_option maxHeartbeats 4000000 in
set_option maxRecDepth 100000 in
theorem c_X4_init (l : Launch) {D : va_G} {cy : Nat → ClassId} {h sz : Nat} : Met l yX4_init (wm yX4_init cX4_init 1 none) ({ frames := 1, cells := 1, slots := 4, locals := 40 } : Room) (va_Pc [.ref h] (PrW D cy [(h, bU)] sz)) (va_Qv (fun _ : Nat => True) (fun u t => va_P D vwCl [(h, .inr (3, [.int 0, .int 0, .ref u])), (u, .inl (cy 3, 4, va_refs (fun _ => none)))] t.heap ∧ va_D (va_A [(h, bU)] sz) [(h, .inr (3, [.int 0, .int 0, .ref u])), (u, .inl (cy 3, 4, va_refs (fun _ => none)))]) (va_A [(h, bU)] sz)) 1 4 (va_A [(h, bU)] sz) := by
  refine ofC (Qc := fun sz => va_Qv (fun _ : Nat => True) (fun u t => va_P D vwCl [(h, .inr (3, [.int 0, .int 0, .ref u])), (u, .inl (cy 3, 4, va_refs (fun _ => none)))] t.heap ∧ va_D (va_A [(h, bU)] sz) [(h, .inr (3, [.int 0, .int 0, .ref u])), (u, .inl (cy 3, 4, va_refs (fun _ => none)))]) (va_A [(h, bU)] sz)) (by decide +kernel) (Nat.le_of_ble_eq_true rfl) ?_
  intro p e s m below meth c hx hb hr hts hown hlocks hml hin hK hP hD ls hl
  have hin : meth.name = "<init>" := hin
  have hl : lv_has ls 1 [(0, .ref h)] := hl
  have hS : va_S (va_A [(h, bU)] s.heap.size) s.heap s.heap [] := va_S.rf
  refine lv_aload_n hx hb dX4_init_0 rfl (lv_at hl 0 rfl) ?_
  refine W.objInit hx hb hown (hts _ k_ml_RX4_3) (hts _ k_im_objectInit) (hts _ k_co_objectInit) rfl (by rw [hml]; exact hl.1) rfl dX4_init_1 (Nat.le_of_ble_eq_true rfl) (Nat.le_of_ble_eq_true rfl) ?_
  refine lv_aload_n hx hb dX4_init_4 rfl (lv_at hl 0 rfl) ?_
  refine lv_iconst (v := 4) hx hb dX4_init_5 (by decide) ?_
  refine va_newq (C := RX3) (N' := 4) hx hb hown (hts _ k_cl_RX4_9) hK.2.2.2.2.2.2.2.2.2.2 hK.1 hP hD hS A_hi (by decide) (by decide) (Nat.le_of_ble_eq_true rfl) (Nat.le_of_ble_eq_true rfl) (Nat.le_of_ble_eq_true rfl) dX4_init_6 (fun q1 cA H hK1 hP hD hS => ?_)
  obtain rfl : cA = cy 3 := tyQ hK (k := 3) rfl (hK1.2 4 (cA, .object RX3) rfl).2
  refine va_putF (ci := 3) (v := .ref q1) (ty := .array (.object "LedgerStore$State")) (C := RX4) (T := TX4) (N := 3) hx hb hts iwX4 tyX4 tyX4_ok nmX4 hown hK.1 hP hD hS 0 rfl rfl 2 (by decide) (hts _ k_fl_RX4_11) (fun _ h => h) rfl hin rfl (by decide +kernel) rfl rfl (Nat.le_of_ble_eq_true rfl) dX4_init_9 (fun H locs hP hD hS => ?_)
  exact W.vret hx hb hr (fun t ht hW => ⟨⟨q1, rfl, trivial, by rw [ht]; exact hP, hD⟩, hS.F ht⟩) hS.2.2 dX4_init_12 hlocks
/-! THE STATE'S CONSTRUCTOR -/
abbrev W3 (cy : Nat → ClassId) (h na la : Nat) (f g : Nat → Option Nat) : va_W := [(h, .inr (2, [.int 0, .int 0, .int 0, .ref na, .ref la])), (na, .inl (cy 2, 8, va_refs f)), (la, .inl (cy 1, 4, va_refs g))]
def nodesX (cy : Nat → ClassId) (q : Nat → Nat × Nat × Nat) (i : Nat) : va_W := (List.range i).flatMap (fun j => nodeL cy (q j).1 (q j).2.1 (q j).2.2)
def ledsX (cy : Nat → ClassId) (q : Nat → Nat × Nat × Nat × Nat × Nat) (i : Nat) : va_W := (List.range i).flatMap (fun j => ledL cy (nI j) (q j).1 (q j).2.1 (q j).2.2.1 (q j).2.2.2.1 (q j).2.2.2.2)
theorem nodesX_s {cy : Nat → ClassId} {q : Nat → Nat × Nat × Nat} {i : Nat} {x : Nat × Nat × Nat} : nodesX cy (va_up q i x) (i + 1) = nodesX cy q i ++ nodeL cy x.1 x.2.1 x.2.2 := by
  unfold nodesX
  rw [List.range_succ, List.flatMap_append]
  congr 1
  · rw [List.flatMap_def, List.flatMap_def]
    congr 1
    refine List.map_congr_left (fun j hj => ?_)
    have : j ≠ i := Nat.ne_of_lt (List.mem_range.mp hj)
    rw [va_up_ne _ _ this]
  · simp [va_up]
theorem ledsX_s {cy : Nat → ClassId} {q : Nat → Nat × Nat × Nat × Nat × Nat} {i : Nat} {x : Nat × Nat × Nat × Nat × Nat} : ledsX cy (va_up q i x) (i + 1) = ledsX cy q i ++ ledL cy (nI i) x.1 x.2.1 x.2.2.1 x.2.2.2.1 x.2.2.2.2 := by
  unfold ledsX
  rw [List.range_succ, List.flatMap_append]
  congr 1
  · rw [List.flatMap_def, List.flatMap_def]
    congr 1
    refine List.map_congr_left (fun j hj => ?_)
    have : j ≠ i := Nat.ne_of_lt (List.mem_range.mp hj)
    rw [va_up_ne _ _ this]
  · simp [va_up]

section SI
variable {p : Program} {l : Launch} {e : Env} {s : State} {m : MethodId} {args : Array Value} {below : List Frame} {meth : Method} {c : Code} {Q : State → Prop} {D : va_G} {cy : Nat → ClassId} {As : Nat → Prop} {H0 : Heap}
abbrev rmS : Room := { frames := 2, cells := 46, slots := 3492, locals := 80 }
set_option maxHeartbeats 4000000 in
set_option maxRecDepth 100000 in
theorem si_nodes {h na la : Nat} {g : Nat → Option Nat} (hx : p.tables.exec = Jvm.exec) (hb : c.code = cX3_init) (hml : c.maxLocals = 2) (hts : ∀ w ∈ LW, w.before args s = true) (hown : s.vm.findClass RX3 = some m.cls) (hK : KK D cy s) (hA : ∀ q, H0.size ≤ q → As q)
    (hout : ∀ (q : Nat → Nat × Nat × Nat) (f : Nat → Option Nat) (H : Heap) (locs : List Loc), (∀ j, j < 8 → f j = some (q j).1) → va_P D vwCl (W3 cy h na la f g ++ nodesX cy q 8) H → va_D As (W3 cy h na la f g ++ nodesX cy q 8) → va_S As H0 H locs → ∀ ls : Array Slot, lv_has ls 2 [(0, .ref h), (1, .int (nI 8))] → W p l e rmS s m args below meth c H locs 26 2140 Q (F0 m 51 ls [])) :
    ∀ (n i : Nat), i + n = 8 → ∀ (q : Nat → Nat × Nat × Nat) (f : Nat → Option Nat) (H : Heap) (locs : List Loc), (∀ j, j < i → f j = some (q j).1) → va_P D vwCl (W3 cy h na la f g ++ nodesX cy q i) H → va_D As (W3 cy h na la f g ++ nodesX cy q i) → va_S As H0 H locs → ∀ ls : Array Slot, lv_has ls 2 [(0, .ref h), (1, .int (nI i))] → W p l e rmS s m args below meth c H locs (2 + 3 * i) (12 + 266 * i) Q (F0 m 23 ls []) := by
  intro n
  induction n with
  | zero =>
    intro i hi q f H locs hf hP hD hS ls hl
    obtain rfl : i = 8 := by omega
    refine lv_iload_n hx hb dX3_init_23 rfl (lv_at hl 1 rfl) ?_
    refine lv_aload_n hx hb dX3_init_24 rfl (lv_at hl 0 rfl) ?_
    refine va_get (ci := 2) (v := .ref na) (C := RX3) (T := TX3) (N := 5) hx hb hts iwX3 hown hK.1 hP 0 rfl rfl 3 (by decide) (hts _ k_fl_RX3_11) (fun _ h => h) rfl dX3_init_25 ?_
    refine va_alen hx hb hK.1 hP 1 2 rfl (ty := .object RX1) rfl (v := 8) rfl dX3_init_28 ?_
    refine lv_icmp_ge (tgt := 51) hx hb dX3_init_29 (by decide) (fun hq => ?_) (fun hq => absurd (by decide) hq)
    exact hout q f H locs hf hP hD hS ls hl
  | succ n ih =>
    intro i hi q f H locs hf hP hD hS ls hl
    refine lv_iload_n hx hb dX3_init_23 rfl (lv_at hl 1 rfl) ?_
    refine lv_aload_n hx hb dX3_init_24 rfl (lv_at hl 0 rfl) ?_
    refine va_get (ci := 2) (v := .ref na) (C := RX3) (T := TX3) (N := 5) hx hb hts iwX3 hown hK.1 hP 0 rfl rfl 3 (by decide) (hts _ k_fl_RX3_11) (fun _ h => h) rfl dX3_init_25 ?_
    refine va_alen hx hb hK.1 hP 1 2 rfl (ty := .object RX1) rfl (v := 8) rfl dX3_init_28 ?_
    refine lv_icmp_ge (tgt := 51) hx hb dX3_init_29 (by decide) (fun hq => absurd hq (nI_ge (a := i) (b := 8) (by omega) (by omega))) (fun hq => ?_)
    refine lv_aload_n hx hb dX3_init_32 rfl (lv_at hl 0 rfl) ?_
    refine va_get (ci := 2) (v := .ref na) (C := RX3) (T := TX3) (N := 5) hx hb hts iwX3 hown hK.1 hP 0 rfl rfl 3 (by decide) (hts _ k_fl_RX3_11) (fun _ h => h) rfl dX3_init_33 ?_
    refine lv_iload_n hx hb dX3_init_36 rfl (lv_at hl 1 rfl) ?_
    refine va_new (ci := 1) (fs := [.int 0, .int 0, .int 0, .int 0, .null, .null]) (C := RX1) (T := TX1) (N := 6) hx hb hts iwX1 tyX1 tyX1_ok hown (hts _ k_cl_RX3_9) (hts _ k_it_RX1) (hts _ k_in_RX1) hK.1 hP hD hS hA rfl (fun j hj => by rcases (show j = 0 ∨ j = 1 ∨ j = 2 ∨ j = 3 ∨ j = 4 ∨ j = 5 by omega) with rfl | rfl | rfl | rfl | rfl | rfl <;> rfl) (by show 2 + 3 * i + 1 ≤ 46; omega) (by show 12 + 266 * i + 6 ≤ 3492; omega) dX3_init_37 (fun q9 H hP hD hS => ?_)
    refine lv_dup hx hb dX3_init_40 rfl ?_
    refine kc hP hD hS hA (va_runIN (As := []) (rest := [.ref q9, .int (nI i), .ref na]) ⟨hx, hb, hml, hown, hts⟩ (c_X1_init l (D := D) (cy := cy) (h := q9) (sz := H.size)) (mkIN 0 hts hK.2.2.2.2.2.2.1 k_im_yX1_init k_in_RX1 k_co_yX1_init rfl hd_X1_init ⟨Nat.le_of_ble_eq_true rfl, Nat.le_of_ble_eq_true rfl⟩) ⟨PrW.blind, preW hK (lastP hP) (lastD hD) rfl⟩ rfl rfl hl.1 rfl (lv_room (pc := 41) (ls := ls) (rest := [.ref q9, .ref q9, .int (nI i), .ref na]) (m := m) (Nat.le_of_ble_eq_true rfl)) dX3_init_41 ⟨by show 2 + 3 * i + 1 + 2 ≤ 46; omega, by show 12 + 266 * i + 6 + 260 ≤ 3492; omega⟩) (fun u H locs _ hP hD hS => ?_)
    obtain ⟨a9, b9⟩ := u
    obtain ⟨k9, hk9⟩ : ∃ k : Nat, ((W3 cy h na la f g ++ nodesX cy q i) ++ nodeL cy q9 a9 b9)[k]? = some (q9, .inr (1, [.int 0, .int 0, .int 0, .int 0, .ref a9, .ref b9])) := List.getElem?_of_mem (List.mem_append_right _ List.mem_cons_self)
    refine va_astq (r := (RX1, TX1, 6)) (q0 := 1) (t0 := 2) (qk := k9) (ci := 1) hx hb hK.1 hP hD hS (f := f) rfl rfl hk9 rfl (vp_in_nI (show i < 8 by omega) (by omega)) dX3_init_44 (fun H locs hP hD hS => ?_)
    rw [nI_clamp (show i < 2 ^ 31 by omega)] at hP hD
    have hP : va_P D vwCl (W3 cy h na la (va_up f i (some q9)) g ++ nodesX cy (va_up q i (q9, a9, b9)) (i + 1)) H := by
      rw [nodesX_s]
      exact hP
    have hD : va_D As (W3 cy h na la (va_up f i (some q9)) g ++ nodesX cy (va_up q i (q9, a9, b9)) (i + 1)) := by
      rw [nodesX_s]
      exact hD
    refine lv_iinc (v := nI (i + 1)) (lv' := [(1, .int (nI (i + 1))), (0, .ref h)]) hx hb dX3_init_45 hl (k := 1) rfl (nI_1 i) (by decide) rfl (fun ls hl => ?_)
    refine lv_goto (tgt := 23) hx hb dX3_init_48 (by decide) ?_
    refine W.cs (cells' := 2 + 3 * (i + 1)) (slots' := 12 + 266 * (i + 1)) (by omega) (by omega) ?_
    refine ih (i + 1) (by omega) (va_up q i (q9, a9, b9)) _ H locs (fun j hj => ?_) hP hD hS ls (lv_sub hl [1, 0] rfl)
    by_cases hji : j = i
    · subst hji; simp [va_up]
    · rw [va_up_ne _ _ hji, va_up_ne _ _ hji]
      exact hf j (by omega)
set_option maxHeartbeats 4000000 in
set_option maxRecDepth 100000 in
theorem si_leds {h na la : Nat} {f : Nat → Option Nat} {X : va_W} (hx : p.tables.exec = Jvm.exec) (hb : c.code = cX3_init) (hml : c.maxLocals = 2) (hts : ∀ w ∈ LW, w.before args s = true) (hown : s.vm.findClass RX3 = some m.cls) (hK : KK D cy s) (hA : ∀ q, H0.size ≤ q → As q)
    (hout : ∀ (q : Nat → Nat × Nat × Nat × Nat × Nat) (g : Nat → Option Nat) (H : Heap) (locs : List Loc), (∀ j, j < 4 → g j = some (q j).1) → va_P D vwCl (W3 cy h na la f g ++ (X ++ ledsX cy q 4)) H → va_D As (W3 cy h na la f g ++ (X ++ ledsX cy q 4)) → va_S As H0 H locs → ∀ ls : Array Slot, W p l e rmS s m args below meth c H locs 46 3492 Q (F0 m 82 ls [])) :
    ∀ (n i : Nat), i + n = 4 → ∀ (q : Nat → Nat × Nat × Nat × Nat × Nat) (g : Nat → Option Nat) (H : Heap) (locs : List Loc), (∀ j, j < i → g j = some (q j).1) → va_P D vwCl (W3 cy h na la f g ++ (X ++ ledsX cy q i)) H → va_D As (W3 cy h na la f g ++ (X ++ ledsX cy q i)) → va_S As H0 H locs → ∀ ls : Array Slot, lv_has ls 2 [(0, .ref h), (1, .int (nI i))] → W p l e rmS s m args below meth c H locs (26 + 5 * i) (2140 + 338 * i) Q (F0 m 53 ls []) := by
  intro n
  induction n with
  | zero =>
    intro i hi q g H locs hf hP hD hS ls hl
    obtain rfl : i = 4 := by omega
    refine lv_iload_n hx hb dX3_init_53 rfl (lv_at hl 1 rfl) ?_
    refine lv_aload_n hx hb dX3_init_54 rfl (lv_at hl 0 rfl) ?_
    refine va_get (ci := 2) (v := .ref la) (C := RX3) (T := TX3) (N := 5) hx hb hts iwX3 hown hK.1 hP 0 rfl rfl 4 (by decide) (hts _ k_fl_RX3_19) (fun _ h => h) rfl dX3_init_55 ?_
    refine va_alen hx hb hK.1 hP 2 1 rfl (ty := .object RX0) rfl (v := 4) rfl dX3_init_58 ?_
    refine lv_icmp_ge (tgt := 82) hx hb dX3_init_59 (by decide) (fun hq => ?_) (fun hq => absurd (by decide) hq)
    exact hout q g H locs hf hP hD hS ls
  | succ n ih =>
    intro i hi q g H locs hf hP hD hS ls hl
    refine lv_iload_n hx hb dX3_init_53 rfl (lv_at hl 1 rfl) ?_
    refine lv_aload_n hx hb dX3_init_54 rfl (lv_at hl 0 rfl) ?_
    refine va_get (ci := 2) (v := .ref la) (C := RX3) (T := TX3) (N := 5) hx hb hts iwX3 hown hK.1 hP 0 rfl rfl 4 (by decide) (hts _ k_fl_RX3_19) (fun _ h => h) rfl dX3_init_55 ?_
    refine va_alen hx hb hK.1 hP 2 1 rfl (ty := .object RX0) rfl (v := 4) rfl dX3_init_58 ?_
    refine lv_icmp_ge (tgt := 82) hx hb dX3_init_59 (by decide) (fun hq => absurd hq (nI_ge (a := i) (b := 4) (by omega) (by omega))) (fun hq => ?_)
    refine lv_aload_n hx hb dX3_init_62 rfl (lv_at hl 0 rfl) ?_
    refine va_get (ci := 2) (v := .ref la) (C := RX3) (T := TX3) (N := 5) hx hb hts iwX3 hown hK.1 hP 0 rfl rfl 4 (by decide) (hts _ k_fl_RX3_19) (fun _ h => h) rfl dX3_init_63 ?_
    refine lv_iload_n hx hb dX3_init_66 rfl (lv_at hl 1 rfl) ?_
    refine va_new (ci := 0) (fs := [.int 0, .int 0, .int 0, .int 0, .int 0, .int 0, .int 0, .int 0, .null, .null, .null, .null]) (C := RX0) (T := TX0) (N := 12) hx hb hts iwX0 tyX0 tyX0_ok hown (hts _ k_cl_RX3_17) (hts _ k_it_RX0) (hts _ k_in_RX0) hK.1 hP hD hS hA rfl (fun j hj => by rcases (show j = 0 ∨ j = 1 ∨ j = 2 ∨ j = 3 ∨ j = 4 ∨ j = 5 ∨ j = 6 ∨ j = 7 ∨ j = 8 ∨ j = 9 ∨ j = 10 ∨ j = 11 by omega) with rfl | rfl | rfl | rfl | rfl | rfl | rfl | rfl | rfl | rfl | rfl | rfl <;> rfl) (by show 26 + 5 * i + 1 ≤ 46; omega) (by show 2140 + 338 * i + 12 ≤ 3492; omega) dX3_init_67 (fun q9 H hP hD hS => ?_)
    refine lv_dup hx hb dX3_init_70 rfl ?_
    refine lv_iload_n hx hb dX3_init_71 rfl (lv_at hl 1 rfl) ?_
    refine kc hP hD hS hA (va_runI (As := [.int (nI i)]) (rest := [.ref q9, .int (nI i), .ref la]) ⟨hx, hb, hml, hown, hts⟩ (c_X0_init l (D := D) (cy := cy) (h := q9) (sz := H.size) (nI i)) (mkI 1 hts k_ml_RX3_24 k_im_yX0_init k_in_RX0 k_co_yX0_init rfl hd_X0_init ⟨Nat.le_of_ble_eq_true rfl, Nat.le_of_ble_eq_true rfl⟩) ⟨PrW.blind, preW hK (lastP hP) (lastD hD) rfl⟩ rfl rfl hl.1 rfl (lv_room (pc := 72) (ls := ls) (rest := [.int (nI i), .ref q9, .ref q9, .int (nI i), .ref la]) (m := m) (Nat.le_of_ble_eq_true rfl)) dX3_init_72 ⟨by show 26 + 5 * i + 1 + 4 ≤ 46; omega, by show 2140 + 338 * i + 12 + 326 ≤ 3492; omega⟩) (fun u H locs _ hP hD hS => ?_)
    obtain ⟨a9, b9, c9, d9⟩ := u
    obtain ⟨k9, hk9⟩ : ∃ k : Nat, ((W3 cy h na la f g ++ (X ++ ledsX cy q i)) ++ ledL cy (nI i) q9 a9 b9 c9 d9)[k]? = some (q9, .inr (0, [.int (nI i), .int 0, .int 0, .int 0, .int 0, .int 0, .int 0, .int 0, .ref a9, .ref b9, .ref c9, .ref d9])) := List.getElem?_of_mem (List.mem_append_right _ List.mem_cons_self)
    refine va_astq (r := (RX0, TX0, 12)) (q0 := 2) (t0 := 1) (qk := k9) (ci := 0) hx hb hK.1 hP hD hS (f := g) rfl rfl hk9 rfl (vp_in_nI (show i < 4 by omega) (by omega)) dX3_init_75 (fun H locs hP hD hS => ?_)
    rw [nI_clamp (show i < 2 ^ 31 by omega)] at hP hD
    have hP : va_P D vwCl (W3 cy h na la f (va_up g i (some q9)) ++ (X ++ ledsX cy (va_up q i (q9, a9, b9, c9, d9)) (i + 1))) H := by
      rw [ledsX_s, ← List.append_assoc X]
      exact hP
    have hD : va_D As (W3 cy h na la f (va_up g i (some q9)) ++ (X ++ ledsX cy (va_up q i (q9, a9, b9, c9, d9)) (i + 1))) := by
      rw [ledsX_s, ← List.append_assoc X]
      exact hD
    refine lv_iinc (v := nI (i + 1)) (lv' := [(1, .int (nI (i + 1))), (0, .ref h)]) hx hb dX3_init_76 hl (k := 1) rfl (nI_1 i) (by decide) rfl (fun ls hl => ?_)
    refine lv_goto (tgt := 53) hx hb dX3_init_79 (by decide) ?_
    refine W.cs (cells' := 26 + 5 * (i + 1)) (slots' := 2140 + 338 * (i + 1)) (by omega) (by omega) ?_
    refine ih (i + 1) (by omega) (va_up q i (q9, a9, b9, c9, d9)) _ H locs (fun j hj => ?_) hP hD hS ls (lv_sub hl [1, 0] rfl)
    by_cases hji : j = i
    · subst hji; simp [va_up]
    · rw [va_up_ne _ _ hji, va_up_ne _ _ hji]
      exact hf j (by omega)
end SI
