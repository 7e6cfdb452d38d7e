set_option maxHeartbeats 4000000 in
set_option maxRecDepth 100000 in
theorem c_J6_bitCount_0f7a4 (l : Launch) {D : va_G} {cy : Nat → ClassId} {A : Nat → Nat} {G : Nat → Bool} {M : Mem} {sz : Nat}   (x0 : Int32)  : Met l yJ6_bitCount_0f7a4 (wm yJ6_bitCount_0f7a4 cJ6_bitCount_0f7a4 1 (some .int)) ({ frames := 0, cells := 0, slots := 0, locals := 0 } : Room) (va_Pc [.int x0] (Pr D cy A G M sz)) (va_Qi (fun (r' : Int32) (u : Mem) => r' = (m_J6_bitCount_0f7a4 x0) ∧ u = M) (Po D cy A G (Fr A G sz)) (Fr A G sz))  0 0 (Fr A G sz) := by
  refine ofB (Qc := fun sz => va_Qi (fun (r' : Int32) (u : Mem) => r' = (m_J6_bitCount_0f7a4 x0) ∧ u = M) (Po D cy A G (Fr A G sz)) (Fr A G sz)) (by decide +kernel) (Nat.le_of_ble_eq_true rfl) ?_
  intro p e s m below meth c hx hb hr hts hown hlocks hml hmn hK hw ls hl
  have hl : lv_has ls 1 [(0, .int x0)] := hl
  generalize hm : m_J6_bitCount_0f7a4 x0 = z
  have J48 : ∀  (v0 : Int32), m_J6_bitCount_0f7a4_b48 v0 = z → ∀ (H : Heap) (locs : List Loc), WD D cy (Fr A G s.heap.size) A s.heap G M H locs → ∀ ls : Array Slot, lv_has ls 1 [(0, .int v0)] → W p l e (headSpec (wm yJ6_bitCount_0f7a4 cJ6_bitCount_0f7a4 1 (some .int)) ({ frames := 0, cells := 0, slots := 0, locals := 0 } : Room)).room s m ([.int x0] : List Value).toArray below meth c H locs 0 0 (MQ below (va_Qi (fun (r' : Int32) (u : Mem) => r' = z ∧ u = M) (Po D cy A G (Fr A G s.heap.size)) (Fr A G s.heap.size)) ([.int x0] : List Value).toArray s 0 0 (Fr A G s.heap.size)) (F0 m 48 ls []) := by
    intro v0 hm H locs hw ls hl
    unfold m_J6_bitCount_0f7a4_b48 at hm
    refine lv_iload_n hx hb dJ6_bitCount_0f7a4_48 rfl (lv_at hl 0 rfl) ?_
    refine lv_bipush (v := 63) hx hb dJ6_bitCount_0f7a4_49 (by decide) ?_
    refine lv_iand hx hb dJ6_bitCount_0f7a4_51 ?_
    cases hm
    exact eI hx hb hr hlocks hK hw dJ6_bitCount_0f7a4_52
  have J41 : ∀  (v0 : Int32), m_J6_bitCount_0f7a4_b41 v0 = z → ∀ (H : Heap) (locs : List Loc), WD D cy (Fr A G s.heap.size) A s.heap G M H locs → ∀ ls : Array Slot, lv_has ls 1 [(0, .int v0)] → W p l e (headSpec (wm yJ6_bitCount_0f7a4 cJ6_bitCount_0f7a4 1 (some .int)) ({ frames := 0, cells := 0, slots := 0, locals := 0 } : Room)).room s m ([.int x0] : List Value).toArray below meth c H locs 0 0 (MQ below (va_Qi (fun (r' : Int32) (u : Mem) => r' = z ∧ u = M) (Po D cy A G (Fr A G s.heap.size)) (Fr A G s.heap.size)) ([.int x0] : List Value).toArray s 0 0 (Fr A G s.heap.size)) (F0 m 41 ls []) := by
    intro v0 hm H locs hw ls hl
    unfold m_J6_bitCount_0f7a4_b41 at hm
    refine lv_iload_n hx hb dJ6_bitCount_0f7a4_41 rfl (lv_at hl 0 rfl) ?_
    refine lv_iload_n hx hb dJ6_bitCount_0f7a4_42 rfl (lv_at hl 0 rfl) ?_
    refine lv_bipush (v := 16) hx hb dJ6_bitCount_0f7a4_43 (by decide) ?_
    refine lv_iushr (v := (us v0 16)) hx hb dJ6_bitCount_0f7a4_45 rfl ?_
    refine lv_iadd hx hb dJ6_bitCount_0f7a4_46 ?_
    refine lv_istore_n (lv' := [(0, .int (v0 + (us v0 16)))]) hx hb dJ6_bitCount_0f7a4_47 rfl hl (by decide) rfl (fun ls hl => ?_)
    exact J48 (v0 + (us v0 16)) hm H locs hw ls hl
  have J34 : ∀  (v0 : Int32), m_J6_bitCount_0f7a4_b34 v0 = z → ∀ (H : Heap) (locs : List Loc), WD D cy (Fr A G s.heap.size) A s.heap G M H locs → ∀ ls : Array Slot, lv_has ls 1 [(0, .int v0)] → W p l e (headSpec (wm yJ6_bitCount_0f7a4 cJ6_bitCount_0f7a4 1 (some .int)) ({ frames := 0, cells := 0, slots := 0, locals := 0 } : Room)).room s m ([.int x0] : List Value).toArray below meth c H locs 0 0 (MQ below (va_Qi (fun (r' : Int32) (u : Mem) => r' = z ∧ u = M) (Po D cy A G (Fr A G s.heap.size)) (Fr A G s.heap.size)) ([.int x0] : List Value).toArray s 0 0 (Fr A G s.heap.size)) (F0 m 34 ls []) := by
    intro v0 hm H locs hw ls hl
    unfold m_J6_bitCount_0f7a4_b34 at hm
    refine lv_iload_n hx hb dJ6_bitCount_0f7a4_34 rfl (lv_at hl 0 rfl) ?_
    refine lv_iload_n hx hb dJ6_bitCount_0f7a4_35 rfl (lv_at hl 0 rfl) ?_
    refine lv_bipush (v := 8) hx hb dJ6_bitCount_0f7a4_36 (by decide) ?_
    refine lv_iushr (v := (us v0 8)) hx hb dJ6_bitCount_0f7a4_38 rfl ?_
    refine lv_iadd hx hb dJ6_bitCount_0f7a4_39 ?_
    refine lv_istore_n (lv' := [(0, .int (v0 + (us v0 8)))]) hx hb dJ6_bitCount_0f7a4_40 rfl hl (by decide) rfl (fun ls hl => ?_)
    exact J41 (v0 + (us v0 8)) hm H locs hw ls hl
  have J24 : ∀  (v0 : Int32), m_J6_bitCount_0f7a4_b24 v0 = z → ∀ (H : Heap) (locs : List Loc), WD D cy (Fr A G s.heap.size) A s.heap G M H locs → ∀ ls : Array Slot, lv_has ls 1 [(0, .int v0)] → W p l e (headSpec (wm yJ6_bitCount_0f7a4 cJ6_bitCount_0f7a4 1 (some .int)) ({ frames := 0, cells := 0, slots := 0, locals := 0 } : Room)).room s m ([.int x0] : List Value).toArray below meth c H locs 0 0 (MQ below (va_Qi (fun (r' : Int32) (u : Mem) => r' = z ∧ u = M) (Po D cy A G (Fr A G s.heap.size)) (Fr A G s.heap.size)) ([.int x0] : List Value).toArray s 0 0 (Fr A G s.heap.size)) (F0 m 24 ls []) := by
    intro v0 hm H locs hw ls hl
    unfold m_J6_bitCount_0f7a4_b24 at hm
    refine lv_iload_n hx hb dJ6_bitCount_0f7a4_24 rfl (lv_at hl 0 rfl) ?_
    refine lv_iload_n hx hb dJ6_bitCount_0f7a4_25 rfl (lv_at hl 0 rfl) ?_
    refine lv_iconst (v := 4) hx hb dJ6_bitCount_0f7a4_26 (by decide) ?_
    refine lv_iushr (v := (us v0 4)) hx hb dJ6_bitCount_0f7a4_27 rfl ?_
    refine lv_iadd hx hb dJ6_bitCount_0f7a4_28 ?_
    refine lv_ldcw hx hb hown (hts _ k_ct_RJ6_267) dJ6_bitCount_0f7a4_29 ?_
    refine lv_iand hx hb dJ6_bitCount_0f7a4_32 ?_
    refine lv_istore_n (lv' := [(0, .int ((v0 + (us v0 4)) &&& 252645135))]) hx hb dJ6_bitCount_0f7a4_33 rfl hl (by decide) rfl (fun ls hl => ?_)
    exact J34 ((v0 + (us v0 4)) &&& 252645135) hm H locs hw ls hl
  have J10 : ∀  (v0 : Int32), m_J6_bitCount_0f7a4_b10 v0 = z → ∀ (H : Heap) (locs : List Loc), WD D cy (Fr A G s.heap.size) A s.heap G M H locs → ∀ ls : Array Slot, lv_has ls 1 [(0, .int v0)] → W p l e (headSpec (wm yJ6_bitCount_0f7a4 cJ6_bitCount_0f7a4 1 (some .int)) ({ frames := 0, cells := 0, slots := 0, locals := 0 } : Room)).room s m ([.int x0] : List Value).toArray below meth c H locs 0 0 (MQ below (va_Qi (fun (r' : Int32) (u : Mem) => r' = z ∧ u = M) (Po D cy A G (Fr A G s.heap.size)) (Fr A G s.heap.size)) ([.int x0] : List Value).toArray s 0 0 (Fr A G s.heap.size)) (F0 m 10 ls []) := by
    intro v0 hm H locs hw ls hl
    unfold m_J6_bitCount_0f7a4_b10 at hm
    refine lv_iload_n hx hb dJ6_bitCount_0f7a4_10 rfl (lv_at hl 0 rfl) ?_
    refine lv_ldcw hx hb hown (hts _ k_ct_RJ6_266) dJ6_bitCount_0f7a4_11 ?_
    refine lv_iand hx hb dJ6_bitCount_0f7a4_14 ?_
    refine lv_iload_n hx hb dJ6_bitCount_0f7a4_15 rfl (lv_at hl 0 rfl) ?_
    refine lv_iconst (v := 2) hx hb dJ6_bitCount_0f7a4_16 (by decide) ?_
    refine lv_iushr (v := (us v0 2)) hx hb dJ6_bitCount_0f7a4_17 rfl ?_
    refine lv_ldcw hx hb hown (hts _ k_ct_RJ6_266) dJ6_bitCount_0f7a4_18 ?_
    refine lv_iand hx hb dJ6_bitCount_0f7a4_21 ?_
    refine lv_iadd hx hb dJ6_bitCount_0f7a4_22 ?_
    refine lv_istore_n (lv' := [(0, .int ((v0 &&& 858993459) + ((us v0 2) &&& 858993459)))]) hx hb dJ6_bitCount_0f7a4_23 rfl hl (by decide) rfl (fun ls hl => ?_)
    exact J24 ((v0 &&& 858993459) + ((us v0 2) &&& 858993459)) hm H locs hw ls hl
  unfold m_J6_bitCount_0f7a4 at hm
  revert hw
  suffices K : ∀ (H : Heap) (locs : List Loc), WD D cy (Fr A G s.heap.size) A s.heap G M H locs → W p l e (headSpec (wm yJ6_bitCount_0f7a4 cJ6_bitCount_0f7a4 1 (some .int)) ({ frames := 0, cells := 0, slots := 0, locals := 0 } : Room)).room s m ([.int x0] : List Value).toArray below meth c H locs 0 0 (MQ below (va_Qi (fun (r' : Int32) (u : Mem) => r' = z ∧ u = M) (Po D cy A G (Fr A G s.heap.size)) (Fr A G s.heap.size)) ([.int x0] : List Value).toArray s 0 0 (Fr A G s.heap.size)) (F0 m 0 ls []) from fun hw => K _ _ hw
  intro H locs hw
  refine lv_iload_n hx hb dJ6_bitCount_0f7a4_0 rfl (lv_at hl 0 rfl) ?_
  refine lv_iload_n hx hb dJ6_bitCount_0f7a4_1 rfl (lv_at hl 0 rfl) ?_
  refine lv_iconst (v := 1) hx hb dJ6_bitCount_0f7a4_2 (by decide) ?_
  refine lv_iushr (v := (us x0 1)) hx hb dJ6_bitCount_0f7a4_3 rfl ?_
  refine lv_ldcw hx hb hown (hts _ k_ct_RJ6_265) dJ6_bitCount_0f7a4_4 ?_
  refine lv_iand hx hb dJ6_bitCount_0f7a4_7 ?_
  refine lv_isub hx hb dJ6_bitCount_0f7a4_8 ?_
  refine lv_istore_n (lv' := [(0, .int (x0 - ((us x0 1) &&& 1431655765)))]) hx hb dJ6_bitCount_0f7a4_9 rfl hl (by decide) rfl (fun ls hl => ?_)
  exact J10 (x0 - ((us x0 1) &&& 1431655765)) hm H locs hw ls hl
set_option maxHeartbeats 4000000 in
set_option maxRecDepth 100000 in
theorem c_J7_fill_53178 (l : Launch) {D : va_G} {cy : Nat → ClassId} {A : Nat → Nat} {G : Nat → Bool} {M : Mem} {sz : Nat} {n0 : Nat} {a0 : Nat} {x1 : Int32} (h0 : TR G n0 a0)  {z : Mem} (hm : m_J7_fill_53178 n0 a0 x1 M = some z) : Met l yJ7_fill_53178 (wm yJ7_fill_53178 cJ7_fill_53178 4 none) ({ frames := 0, cells := 0, slots := 0, locals := 0 } : Room) (va_Pc [.ref (A a0), .int x1] (Pr D cy A G M sz)) (va_Qv (fun (u : Mem) => u = z) (Po D cy A G (Fr A G sz)) (Fr A G sz))  0 0 (Fr A G sz) := by
  refine ofB (Qc := fun sz => va_Qv (fun (u : Mem) => u = z) (Po D cy A G (Fr A G sz)) (Fr A G sz)) (by decide +kernel) (Nat.le_of_ble_eq_true rfl) ?_
  intro p e s m below meth c hx hb hr hts hown hlocks hml hmn hK hw ls hl
  have hl : lv_has ls 4 [(0, .ref (A a0)), (1, .int x1)] := hl
  have J5 : ∀  (n : Nat) (v2 : Int32) (v3 : Int32) (M : Mem), m_J7_fill_53178_L5 n0 a0 x1 n v2 v3 M = some z → ∀ (H : Heap) (locs : List Loc), WD D cy (Fr A G s.heap.size) A s.heap G M H locs → ∀ ls : Array Slot, lv_has ls 4 [(0, .ref (A a0)), (1, .int x1), (2, .int v2), (3, .int v3)] → W p l e (headSpec (wm yJ7_fill_53178 cJ7_fill_53178 4 none) ({ frames := 0, cells := 0, slots := 0, locals := 0 } : Room)).room s m ([.ref (A a0), .int x1] : List Value).toArray below meth c H locs 0 0 (MQ below (va_Qv (fun (u : Mem) => u = z) (Po D cy A G (Fr A G s.heap.size)) (Fr A G s.heap.size)) ([.ref (A a0), .int x1] : List Value).toArray s 0 0 (Fr A G s.heap.size)) (F0 m 5 ls []) := by
    intro n
    induction n with
    | zero =>
      intro v2 v3 M hm
      cases (show (none : Option Mem) = some z from hm)
    | succ n ih =>
      intro v2 v3 M hm H locs hw ls hl
      have hm := (m_J7_fill_53178_L5_s n0 a0 x1 n v2 v3 M).symm.trans hm
      refine lv_iload_n hx hb dJ7_fill_53178_5 rfl (lv_at hl 2 rfl) ?_
      refine lv_iload_n hx hb dJ7_fill_53178_6 rfl (lv_at hl 3 rfl) ?_
      refine lv_icmp_ge (tgt := 20) hx hb dJ7_fill_53178_7 (by decide) (fun hq1 => ?_) (fun hq1 => ?_)
      · have hm := (if_pos hq1).symm.trans hm
        cases hm
        exact eV hx hb hr hlocks hK hw dJ7_fill_53178_20
      · have hm := (if_neg hq1).symm.trans hm
        refine lv_aload_n hx hb dJ7_fill_53178_10 rfl (lv_at hl 0 rfl) ?_
        refine lv_iload_n hx hb dJ7_fill_53178_11 rfl (lv_at hl 2 rfl) ?_
        refine lv_iload_n hx hb dJ7_fill_53178_12 rfl (lv_at hl 1 rfl) ?_
        obtain ⟨hi2, hm⟩ := ck_some hm
        refine pI hx hb hK hw h0 hi2 dJ7_fill_53178_13 (fun H locs hw => ?_)
        refine lv_iinc (v := (v2 + 1)) (lv' := [(2, .int (v2 + 1)), (0, .ref (A a0)), (1, .int x1), (3, .int v3)]) hx hb dJ7_fill_53178_14 hl (k := 2) rfl rfl (by decide) rfl (fun ls hl => ?_)
        refine lv_goto (tgt := 5) hx hb dJ7_fill_53178_17 (by decide) ?_
        exact ih (v2 + 1) v3 (aI a0 v2 x1 M) hm H locs hw ls (lv_sub hl [1, 2, 0, 3] rfl)
  unfold m_J7_fill_53178 at hm
  revert hw
  suffices K : ∀ (H : Heap) (locs : List Loc), WD D cy (Fr A G s.heap.size) A s.heap G M H locs → W p l e (headSpec (wm yJ7_fill_53178 cJ7_fill_53178 4 none) ({ frames := 0, cells := 0, slots := 0, locals := 0 } : Room)).room s m ([.ref (A a0), .int x1] : List Value).toArray below meth c H locs 0 0 (MQ below (va_Qv (fun (u : Mem) => u = z) (Po D cy A G (Fr A G s.heap.size)) (Fr A G s.heap.size)) ([.ref (A a0), .int x1] : List Value).toArray s 0 0 (Fr A G s.heap.size)) (F0 m 0 ls []) from fun hw => K _ _ hw
  intro H locs hw
  refine lv_iconst (v := 0) hx hb dJ7_fill_53178_0 (by decide) ?_
  refine lv_istore_n (lv' := [(2, .int 0), (0, .ref (A a0)), (1, .int x1)]) hx hb dJ7_fill_53178_1 rfl hl (by decide) rfl (fun ls hl => ?_)
  refine lv_aload_n hx hb dJ7_fill_53178_2 rfl (lv_at hl 1 rfl) ?_
  refine lI (v := (Int32.ofNat n0)) hx hb hK hw h0 rfl dJ7_fill_53178_3 ?_
  refine lv_istore_n (lv' := [(3, .int (Int32.ofNat n0)), (2, .int 0), (0, .ref (A a0)), (1, .int x1)]) hx hb dJ7_fill_53178_4 rfl hl (by decide) rfl (fun ls hl => ?_)
  exact J5 fuel 0 (Int32.ofNat n0) M hm H locs hw ls (lv_sub hl [2, 3, 1, 0] rfl)
set_option maxHeartbeats 4000000 in
set_option maxRecDepth 100000 in
theorem c_X2_of (l : Launch) {D : va_G} {cy : Nat → ClassId} {A : Nat → Nat} {G : Nat → Bool} {M : Mem} {sz : Nat}   (x0 : Int32) (x1 : Int32) (x2 : Int32) (x3 : Int32)  : Met l yX2_of (wm yX2_of cX2_of 4 (some .int)) ({ frames := 0, cells := 0, slots := 0, locals := 0 } : Room) (va_Pc [.int x0, .int x1, .int x2, .int x3] (Pr D cy A G M sz)) (va_Qi (fun (r' : Int32) (u : Mem) => r' = (m_X2_of x0 x1 x2 x3) ∧ u = M) (Po D cy A G (Fr A G sz)) (Fr A G sz))  0 0 (Fr A G sz) := by
  refine ofB (Qc := fun sz => va_Qi (fun (r' : Int32) (u : Mem) => r' = (m_X2_of x0 x1 x2 x3) ∧ u = M) (Po D cy A G (Fr A G sz)) (Fr A G sz)) (by decide +kernel) (Nat.le_of_ble_eq_true rfl) ?_
  intro p e s m below meth c hx hb hr hts hown hlocks hml hmn hK hw ls hl
  have hl : lv_has ls 4 [(0, .int x0), (1, .int x1), (2, .int x2), (3, .int x3)] := hl
  generalize hm : m_X2_of x0 x1 x2 x3 = z
  unfold m_X2_of at hm
  revert hw
  suffices K : ∀ (H : Heap) (locs : List Loc), WD D cy (Fr A G s.heap.size) A s.heap G M H locs → W p l e (headSpec (wm yX2_of cX2_of 4 (some .int)) ({ frames := 0, cells := 0, slots := 0, locals := 0 } : Room)).room s m ([.int x0, .int x1, .int x2, .int x3] : List Value).toArray below meth c H locs 0 0 (MQ below (va_Qi (fun (r' : Int32) (u : Mem) => r' = z ∧ u = M) (Po D cy A G (Fr A G s.heap.size)) (Fr A G s.heap.size)) ([.int x0, .int x1, .int x2, .int x3] : List Value).toArray s 0 0 (Fr A G s.heap.size)) (F0 m 0 ls []) from fun hw => K _ _ hw
  intro H locs hw
  refine lv_iload_n hx hb dX2_of_0 rfl (lv_at hl 0 rfl) ?_
  refine lv_iconst (v := 3) hx hb dX2_of_1 (by decide) ?_
  refine lv_iand hx hb dX2_of_2 ?_
  refine lv_bipush (v := 22) hx hb dX2_of_3 (by decide) ?_
  refine lv_ishl hx hb dX2_of_5 ?_
  refine lv_iload_n hx hb dX2_of_6 rfl (lv_at hl 1 rfl) ?_
  refine lv_bipush (v := 63) hx hb dX2_of_7 (by decide) ?_
  refine lv_iand hx hb dX2_of_9 ?_
  refine lv_bipush (v := 16) hx hb dX2_of_10 (by decide) ?_
  refine lv_ishl hx hb dX2_of_12 ?_
  refine lv_ior hx hb dX2_of_13 ?_
  refine lv_iload_n hx hb dX2_of_14 rfl (lv_at hl 3 rfl) ?_
  refine lv_iconst (v := 1) hx hb dX2_of_15 (by decide) ?_
  refine lv_iadd hx hb dX2_of_16 ?_
  refine lv_bipush (v := 63) hx hb dX2_of_17 (by decide) ?_
  refine lv_iand hx hb dX2_of_19 ?_
  refine lv_bipush (v := 10) hx hb dX2_of_20 (by decide) ?_
  refine lv_ishl hx hb dX2_of_22 ?_
  refine lv_ior hx hb dX2_of_23 ?_
  refine lv_iload_n hx hb dX2_of_24 rfl (lv_at hl 2 rfl) ?_
  refine lv_sipush (v := 1023) hx hb dX2_of_25 (by decide) ?_
  refine lv_iand hx hb dX2_of_28 ?_
  refine lv_ior hx hb dX2_of_29 ?_
  cases hm
  exact eI hx hb hr hlocks hK hw dX2_of_30
set_option maxHeartbeats 4000000 in
set_option maxRecDepth 100000 in
theorem c_X2_ledgerOf (l : Launch) {D : va_G} {cy : Nat → ClassId} {A : Nat → Nat} {G : Nat → Bool} {M : Mem} {sz : Nat}   (x0 : Int32)  : Met l yX2_ledgerOf (wm yX2_ledgerOf cX2_ledgerOf 1 (some .int)) ({ frames := 0, cells := 0, slots := 0, locals := 0 } : Room) (va_Pc [.int x0] (Pr D cy A G M sz)) (va_Qi (fun (r' : Int32) (u : Mem) => r' = (m_X2_ledgerOf x0) ∧ u = M) (Po D cy A G (Fr A G sz)) (Fr A G sz))  0 0 (Fr A G sz) := by
  refine ofB (Qc := fun sz => va_Qi (fun (r' : Int32) (u : Mem) => r' = (m_X2_ledgerOf x0) ∧ u = M) (Po D cy A G (Fr A G sz)) (Fr A G sz)) (by decide +kernel) (Nat.le_of_ble_eq_true rfl) ?_
  intro p e s m below meth c hx hb hr hts hown hlocks hml hmn hK hw ls hl
  have hl : lv_has ls 1 [(0, .int x0)] := hl
  generalize hm : m_X2_ledgerOf x0 = z
  unfold m_X2_ledgerOf at hm
  revert hw
  suffices K : ∀ (H : Heap) (locs : List Loc), WD D cy (Fr A G s.heap.size) A s.heap G M H locs → W p l e (headSpec (wm yX2_ledgerOf cX2_ledgerOf 1 (some .int)) ({ frames := 0, cells := 0, slots := 0, locals := 0 } : Room)).room s m ([.int x0] : List Value).toArray below meth c H locs 0 0 (MQ below (va_Qi (fun (r' : Int32) (u : Mem) => r' = z ∧ u = M) (Po D cy A G (Fr A G s.heap.size)) (Fr A G s.heap.size)) ([.int x0] : List Value).toArray s 0 0 (Fr A G s.heap.size)) (F0 m 0 ls []) from fun hw => K _ _ hw
  intro H locs hw
  refine lv_iload_n hx hb dX2_ledgerOf_0 rfl (lv_at hl 0 rfl) ?_
  refine lv_bipush (v := 22) hx hb dX2_ledgerOf_1 (by decide) ?_
  refine lv_ishr hx hb dX2_ledgerOf_3 ?_
  refine lv_iconst (v := 3) hx hb dX2_ledgerOf_4 (by decide) ?_
  refine lv_iand hx hb dX2_ledgerOf_5 ?_
  cases hm
  exact eI hx hb hr hlocks hK hw dX2_ledgerOf_6
set_option maxHeartbeats 4000000 in
set_option maxRecDepth 100000 in
theorem c_X2_entryOf (l : Launch) {D : va_G} {cy : Nat → ClassId} {A : Nat → Nat} {G : Nat → Bool} {M : Mem} {sz : Nat}   (x0 : Int32)  : Met l yX2_entryOf (wm yX2_entryOf cX2_entryOf 1 (some .int)) ({ frames := 0, cells := 0, slots := 0, locals := 0 } : Room) (va_Pc [.int x0] (Pr D cy A G M sz)) (va_Qi (fun (r' : Int32) (u : Mem) => r' = (m_X2_entryOf x0) ∧ u = M) (Po D cy A G (Fr A G sz)) (Fr A G sz))  0 0 (Fr A G sz) := by
  refine ofB (Qc := fun sz => va_Qi (fun (r' : Int32) (u : Mem) => r' = (m_X2_entryOf x0) ∧ u = M) (Po D cy A G (Fr A G sz)) (Fr A G sz)) (by decide +kernel) (Nat.le_of_ble_eq_true rfl) ?_
  intro p e s m below meth c hx hb hr hts hown hlocks hml hmn hK hw ls hl
  have hl : lv_has ls 1 [(0, .int x0)] := hl
  generalize hm : m_X2_entryOf x0 = z
  unfold m_X2_entryOf at hm
  revert hw
  suffices K : ∀ (H : Heap) (locs : List Loc), WD D cy (Fr A G s.heap.size) A s.heap G M H locs → W p l e (headSpec (wm yX2_entryOf cX2_entryOf 1 (some .int)) ({ frames := 0, cells := 0, slots := 0, locals := 0 } : Room)).room s m ([.int x0] : List Value).toArray below meth c H locs 0 0 (MQ below (va_Qi (fun (r' : Int32) (u : Mem) => r' = z ∧ u = M) (Po D cy A G (Fr A G s.heap.size)) (Fr A G s.heap.size)) ([.int x0] : List Value).toArray s 0 0 (Fr A G s.heap.size)) (F0 m 0 ls []) from fun hw => K _ _ hw
  intro H locs hw
  refine lv_iload_n hx hb dX2_entryOf_0 rfl (lv_at hl 0 rfl) ?_
  refine lv_bipush (v := 16) hx hb dX2_entryOf_1 (by decide) ?_
  refine lv_ishr hx hb dX2_entryOf_3 ?_
  refine lv_bipush (v := 63) hx hb dX2_entryOf_4 (by decide) ?_
  refine lv_iand hx hb dX2_entryOf_6 ?_
  cases hm
  exact eI hx hb hr hlocks hK hw dX2_entryOf_7
set_option maxHeartbeats 4000000 in
set_option maxRecDepth 100000 in
theorem c_X2_confirmedOf (l : Launch) {D : va_G} {cy : Nat → ClassId} {A : Nat → Nat} {G : Nat → Bool} {M : Mem} {sz : Nat}   (x0 : Int32)  : Met l yX2_confirmedOf (wm yX2_confirmedOf cX2_confirmedOf 1 (some .int)) ({ frames := 0, cells := 0, slots := 0, locals := 0 } : Room) (va_Pc [.int x0] (Pr D cy A G M sz)) (va_Qi (fun (r' : Int32) (u : Mem) => r' = (m_X2_confirmedOf x0) ∧ u = M) (Po D cy A G (Fr A G sz)) (Fr A G sz))  0 0 (Fr A G sz) := by
  refine ofB (Qc := fun sz => va_Qi (fun (r' : Int32) (u : Mem) => r' = (m_X2_confirmedOf x0) ∧ u = M) (Po D cy A G (Fr A G sz)) (Fr A G sz)) (by decide +kernel) (Nat.le_of_ble_eq_true rfl) ?_
  intro p e s m below meth c hx hb hr hts hown hlocks hml hmn hK hw ls hl
  have hl : lv_has ls 1 [(0, .int x0)] := hl
  generalize hm : m_X2_confirmedOf x0 = z
  unfold m_X2_confirmedOf at hm
  revert hw
  suffices K : ∀ (H : Heap) (locs : List Loc), WD D cy (Fr A G s.heap.size) A s.heap G M H locs → W p l e (headSpec (wm yX2_confirmedOf cX2_confirmedOf 1 (some .int)) ({ frames := 0, cells := 0, slots := 0, locals := 0 } : Room)).room s m ([.int x0] : List Value).toArray below meth c H locs 0 0 (MQ below (va_Qi (fun (r' : Int32) (u : Mem) => r' = z ∧ u = M) (Po D cy A G (Fr A G s.heap.size)) (Fr A G s.heap.size)) ([.int x0] : List Value).toArray s 0 0 (Fr A G s.heap.size)) (F0 m 0 ls []) from fun hw => K _ _ hw
  intro H locs hw
  refine lv_iload_n hx hb dX2_confirmedOf_0 rfl (lv_at hl 0 rfl) ?_
  refine lv_bipush (v := 10) hx hb dX2_confirmedOf_1 (by decide) ?_
  refine lv_ishr hx hb dX2_confirmedOf_3 ?_
  refine lv_bipush (v := 63) hx hb dX2_confirmedOf_4 (by decide) ?_
  refine lv_iand hx hb dX2_confirmedOf_6 ?_
  refine lv_iconst (v := 1) hx hb dX2_confirmedOf_7 (by decide) ?_
  refine lv_isub hx hb dX2_confirmedOf_8 ?_
  cases hm
  exact eI hx hb hr hlocks hK hw dX2_confirmedOf_9
set_option maxHeartbeats 4000000 in
set_option maxRecDepth 100000 in
theorem c_X2_payloadOf (l : Launch) {D : va_G} {cy : Nat → ClassId} {A : Nat → Nat} {G : Nat → Bool} {M : Mem} {sz : Nat}   (x0 : Int32)  : Met l yX2_payloadOf (wm yX2_payloadOf cX2_payloadOf 1 (some .int)) ({ frames := 0, cells := 0, slots := 0, locals := 0 } : Room) (va_Pc [.int x0] (Pr D cy A G M sz)) (va_Qi (fun (r' : Int32) (u : Mem) => r' = (m_X2_payloadOf x0) ∧ u = M) (Po D cy A G (Fr A G sz)) (Fr A G sz))  0 0 (Fr A G sz) := by
  refine ofB (Qc := fun sz => va_Qi (fun (r' : Int32) (u : Mem) => r' = (m_X2_payloadOf x0) ∧ u = M) (Po D cy A G (Fr A G sz)) (Fr A G sz)) (by decide +kernel) (Nat.le_of_ble_eq_true rfl) ?_
  intro p e s m below meth c hx hb hr hts hown hlocks hml hmn hK hw ls hl
  have hl : lv_has ls 1 [(0, .int x0)] := hl
  generalize hm : m_X2_payloadOf x0 = z
  unfold m_X2_payloadOf at hm
  revert hw
  suffices K : ∀ (H : Heap) (locs : List Loc), WD D cy (Fr A G s.heap.size) A s.heap G M H locs → W p l e (headSpec (wm yX2_payloadOf cX2_payloadOf 1 (some .int)) ({ frames := 0, cells := 0, slots := 0, locals := 0 } : Room)).room s m ([.int x0] : List Value).toArray below meth c H locs 0 0 (MQ below (va_Qi (fun (r' : Int32) (u : Mem) => r' = z ∧ u = M) (Po D cy A G (Fr A G s.heap.size)) (Fr A G s.heap.size)) ([.int x0] : List Value).toArray s 0 0 (Fr A G s.heap.size)) (F0 m 0 ls []) from fun hw => K _ _ hw
  intro H locs hw
  refine lv_iload_n hx hb dX2_payloadOf_0 rfl (lv_at hl 0 rfl) ?_
  refine lv_sipush (v := 1023) hx hb dX2_payloadOf_1 (by decide) ?_
  refine lv_iand hx hb dX2_payloadOf_4 ?_
  cases hm
  exact eI hx hb hr hlocks hK hw dX2_payloadOf_5
set_option maxHeartbeats 4000000 in
set_option maxRecDepth 100000 in
theorem c_X5_copyRow (l : Launch) {D : va_G} {cy : Nat → ClassId} {A : Nat → Nat} {G : Nat → Bool} {M : Mem} {sz : Nat} {n0 : Nat} {a0 : Nat} {n1 : Nat} {a1 : Nat} (h0 : TR G n0 a0) (h1 : TR G n1 a1)  {z : Mem} (hm : m_X5_copyRow n0 a0 n1 a1 M = some z) : Met l yX5_copyRow (wm yX5_copyRow cX5_copyRow 2 none) ({ frames := 1, cells := 0, slots := 0, locals := 40 } : Room) (va_Pc [.ref (A a0), .ref (A a1)] (Pr D cy A G M sz)) (va_Qv (fun (u : Mem) => u = z) (Po D cy A G (Fr A G sz)) (Fr A G sz))  0 0 (Fr A G sz) := by
  refine ofB (Qc := fun sz => va_Qv (fun (u : Mem) => u = z) (Po D cy A G (Fr A G sz)) (Fr A G sz)) (by decide +kernel) (Nat.le_of_ble_eq_true rfl) ?_
  intro p e s m below meth c hx hb hr hts hown hlocks hml hmn hK hw ls hl
  have hl : lv_has ls 2 [(0, .ref (A a0)), (1, .ref (A a1))] := hl
  unfold m_X5_copyRow at hm
  revert hw
  suffices K : ∀ (H : Heap) (locs : List Loc), WD D cy (Fr A G s.heap.size) A s.heap G M H locs → W p l e (headSpec (wm yX5_copyRow cX5_copyRow 2 none) ({ frames := 1, cells := 0, slots := 0, locals := 40 } : Room)).room s m ([.ref (A a0), .ref (A a1)] : List Value).toArray below meth c H locs 0 0 (MQ below (va_Qv (fun (u : Mem) => u = z) (Po D cy A G (Fr A G s.heap.size)) (Fr A G s.heap.size)) ([.ref (A a0), .ref (A a1)] : List Value).toArray s 0 0 (Fr A G s.heap.size)) (F0 m 0 ls []) from fun hw => K _ _ hw
  intro H locs hw
  refine lv_aload_n hx hb dX5_copyRow_0 rfl (lv_at hl 0 rfl) ?_
  refine lv_iconst (v := 0) hx hb dX5_copyRow_1 (by decide) ?_
  refine lv_aload_n hx hb dX5_copyRow_2 rfl (lv_at hl 1 rfl) ?_
  refine lv_iconst (v := 0) hx hb dX5_copyRow_3 (by decide) ?_
  refine lv_aload_n hx hb dX5_copyRow_4 rfl (lv_at hl 0 rfl) ?_
  refine lI (v := (Int32.ofNat n0)) hx hb hK hw h0 rfl dX5_copyRow_5 ?_
  refine lv_aload_n hx hb dX5_copyRow_6 rfl (lv_at hl 1 rfl) ?_
  refine lI (v := (Int32.ofNat n1)) hx hb hK hw h1 rfl dX5_copyRow_7 ?_
  refine mnI hx hb (hml.trans hl.1.symm) hts hown k_ml_RX5_273 (Nat.le_of_ble_eq_true rfl) (Nat.le_of_ble_eq_true rfl) (Nat.le_of_ble_eq_true rfl) (Nat.le_of_ble_eq_true rfl) dX5_copyRow_8 ?_
  obtain ⟨hc1, hm⟩ := ck_some hm
  obtain ⟨hc2, hm⟩ := ck_some hm
  obtain ⟨hc3, hm⟩ := ck_some hm
  obtain ⟨hc4, hm⟩ := ck_some hm
  obtain ⟨hc5, hm⟩ := ck_some hm
  refine cpI hx hb (hml.trans hl.1.symm) hts hown hK hw k_ml_RX5_278 h0 h1 hc1 hc2 hc3 hc4 hc5 (Nat.le_of_ble_eq_true rfl) (by decide) dX5_copyRow_11 (fun H locs hw => ?_)
  cases hm
  exact eV hx hb hr hlocks hK hw dX5_copyRow_14
set_option maxHeartbeats 4000000 in
set_option maxRecDepth 100000 in
theorem c_X5_contains (l : Launch) {D : va_G} {cy : Nat → ClassId} {A : Nat → Nat} {G : Nat → Bool} {M : Mem} {sz : Nat}   (x0 : Int32) (x1 : Int32)  : Met l yX5_contains (wm yX5_contains cX5_contains 2 (some .boolean)) ({ frames := 0, cells := 0, slots := 0, locals := 0 } : Room) (va_Pc [.int x0, .int x1] (Pr D cy A G M sz)) (va_Qi (fun (r' : Int32) (u : Mem) => r' = (m_X5_contains x0 x1) ∧ u = M) (Po D cy A G (Fr A G sz)) (Fr A G sz))  0 0 (Fr A G sz) := by
  refine ofB (Qc := fun sz => va_Qi (fun (r' : Int32) (u : Mem) => r' = (m_X5_contains x0 x1) ∧ u = M) (Po D cy A G (Fr A G sz)) (Fr A G sz)) (by decide +kernel) (Nat.le_of_ble_eq_true rfl) ?_
  intro p e s m below meth c hx hb hr hts hown hlocks hml hmn hK hw ls hl
  have hl : lv_has ls 2 [(0, .int x0), (1, .int x1)] := hl
  generalize hm : m_X5_contains x0 x1 = z
  unfold m_X5_contains at hm
  revert hw
  suffices K : ∀ (H : Heap) (locs : List Loc), WD D cy (Fr A G s.heap.size) A s.heap G M H locs → W p l e (headSpec (wm yX5_contains cX5_contains 2 (some .boolean)) ({ frames := 0, cells := 0, slots := 0, locals := 0 } : Room)).room s m ([.int x0, .int x1] : List Value).toArray below meth c H locs 0 0 (MQ below (va_Qi (fun (r' : Int32) (u : Mem) => r' = z ∧ u = M) (Po D cy A G (Fr A G s.heap.size)) (Fr A G s.heap.size)) ([.int x0, .int x1] : List Value).toArray s 0 0 (Fr A G s.heap.size)) (F0 m 0 ls []) from fun hw => K _ _ hw
  intro H locs hw
  refine lv_iload_n hx hb dX5_contains_0 rfl (lv_at hl 1 rfl) ?_
  refine lv_if_lt (tgt := 16) hx hb dX5_contains_1 (by decide) (fun hq1 => ?_) (fun hq1 => ?_)
  · have hm := (if_pos hq1).symm.trans hm
    refine lv_iconst (v := 0) hx hb dX5_contains_16 (by decide) ?_
    cases hm
    exact eZ (show zb 0 by decide) hx hb hr hlocks hK hw dX5_contains_17
  · have hm := (if_neg hq1).symm.trans hm
    refine lv_iload_n hx hb dX5_contains_4 rfl (lv_at hl 0 rfl) ?_
    refine lv_iload_n hx hb dX5_contains_5 rfl (lv_at hl 1 rfl) ?_
    refine lv_ishr hx hb dX5_contains_6 ?_
    refine lv_iconst (v := 1) hx hb dX5_contains_7 (by decide) ?_
    refine lv_iand hx hb dX5_contains_8 ?_
    refine lv_if_eq (tgt := 16) hx hb dX5_contains_9 (by decide) (fun hq2 => ?_) (fun hq2 => ?_)
    · have hm := (if_pos hq2).symm.trans hm
      refine lv_iconst (v := 0) hx hb dX5_contains_16 (by decide) ?_
      cases hm
      exact eZ (show zb 0 by decide) hx hb hr hlocks hK hw dX5_contains_17
    · have hm := (if_neg hq2).symm.trans hm
      refine lv_iconst (v := 1) hx hb dX5_contains_12 (by decide) ?_
      refine lv_goto (tgt := 17) hx hb dX5_contains_13 (by decide) ?_
      cases hm
      exact eZ (show zb 1 by decide) hx hb hr hlocks hK hw dX5_contains_17
set_option maxHeartbeats 4000000 in
set_option maxRecDepth 100000 in
theorem c_X1_begin (l : Launch) {D : va_G} {cy : Nat → ClassId} {A : Nat → Nat} {G : Nat → Bool} {M : Mem} {sz : Nat} {a0 : Nat} (h0 : TT G 1 a0)  {z : Mem} (hm : m_X1_begin a0 M = some z) : Met l yX1_begin (wm yX1_begin cX1_begin 1 none) ({ frames := 1, cells := 0, slots := 0, locals := 23 } : Room) (va_Pc [.ref (A a0)] (Pr D cy A G M sz)) (va_Qv (fun (u : Mem) => u = z) (Po D cy A G (Fr A G sz)) (Fr A G sz))  0 0 (Fr A G sz) := by
  refine ofB (Qc := fun sz => va_Qv (fun (u : Mem) => u = z) (Po D cy A G (Fr A G sz)) (Fr A G sz)) (by decide +kernel) (Nat.le_of_ble_eq_true rfl) ?_
  intro p e s m below meth c hx hb hr hts hown hlocks hml hmn hK hw ls hl
  have hl : lv_has ls 1 [(0, .ref (A a0))] := hl
  unfold m_X1_begin at hm
  revert hw
  suffices K : ∀ (H : Heap) (locs : List Loc), WD D cy (Fr A G s.heap.size) A s.heap G M H locs → W p l e (headSpec (wm yX1_begin cX1_begin 1 none) ({ frames := 1, cells := 0, slots := 0, locals := 23 } : Room)).room s m ([.ref (A a0)] : List Value).toArray below meth c H locs 0 0 (MQ below (va_Qv (fun (u : Mem) => u = z) (Po D cy A G (Fr A G s.heap.size)) (Fr A G s.heap.size)) ([.ref (A a0)] : List Value).toArray s 0 0 (Fr A G s.heap.size)) (F0 m 0 ls []) from fun hw => K _ _ hw
  intro H locs hw
  refine lv_aload_n hx hb dX1_begin_0 rfl (lv_at hl 0 rfl) ?_
  refine lv_iconst (v := 1) hx hb dX1_begin_1 (by decide) ?_
  refine p1 hx hb hts hown hK hw h0 0 (by decide) k_fl_RX1_18 (fun _ h => h) rfl (zb_n (by decide)) (zb_f (by decide)) dX1_begin_2 (fun H locs hw => ?_)
  refine lv_aload_n hx hb dX1_begin_5 rfl (lv_at hl 0 rfl) ?_
  refine lv_iconst (v := 0) hx hb dX1_begin_6 (by decide) ?_
  refine p1 hx hb hts hown hK hw h0 1 (by decide) k_fl_RX1_22 (fun _ h => h) rfl rfl rfl dX1_begin_7 (fun H locs hw => ?_)
  refine lv_aload_n hx hb dX1_begin_10 rfl (lv_at hl 0 rfl) ?_
  refine lv_iconst (v := 0) hx hb dX1_begin_11 (by decide) ?_
  refine p1 hx hb hts hown hK hw h0 2 (by decide) k_fl_RX1_26 (fun _ h => h) rfl rfl rfl dX1_begin_12 (fun H locs hw => ?_)
  refine lv_aload_n hx hb dX1_begin_15 rfl (lv_at hl 0 rfl) ?_
  refine lv_iconst (v := 0) hx hb dX1_begin_16 (by decide) ?_
  refine p1 hx hb hts hown hK hw h0 3 (by decide) k_fl_RX1_29 (fun _ h => h) rfl rfl rfl dX1_begin_17 (fun H locs hw => ?_)
  refine lv_aload_n hx hb dX1_begin_20 rfl (lv_at hl 0 rfl) ?_
  refine g1 hx hb hts hown hK hw h0 4 (by decide) (.ref (A (a0 + 1))) rfl k_fl_RX1_9 (fun _ h => h) dX1_begin_21 ?_
  have hp1 := nd_s h0
  refine lv_iconst (v := (-1)) hx hb dX1_begin_24 (by decide) ?_
  obtain ⟨z2, e3, hm⟩ := bd_some hm
  refine kv hw Fr_hi (rS hx hb hml hts hown hK hw (c_J7_fill_53178 l hp1 e3) (mkS 2 hts k_ml_RX1_32 k_st_yJ7_fill_53178 k_in_RJ7 k_co_yJ7_fill_53178 hd_J7_fill_53178 ⟨Nat.le_of_ble_eq_true rfl, Nat.le_of_ble_eq_true rfl⟩) rfl hl.1 rfl (Nat.le_of_ble_eq_true rfl) dX1_begin_25 ⟨Nat.le_of_ble_eq_true rfl, Nat.le_of_ble_eq_true rfl⟩) (fun H locs hw => ?_)
  cases hm
  exact eV hx hb hr hlocks hK hw dX1_begin_28
set_option maxHeartbeats 4000000 in
set_option maxRecDepth 100000 in
theorem c_X1_copyFrom (l : Launch) {D : va_G} {cy : Nat → ClassId} {A : Nat → Nat} {G : Nat → Bool} {M : Mem} {sz : Nat} {a0 : Nat} {a1 : Nat} (h0 : TT G 1 a0) (h1 : TT G 1 a1)  {z : Mem} (hm : m_X1_copyFrom a0 a1 M = some z) : Met l yX1_copyFrom (wm yX1_copyFrom cX1_copyFrom 2 none) ({ frames := 2, cells := 0, slots := 0, locals := 61 } : Room) (va_Pc [.ref (A a0), .ref (A a1)] (Pr D cy A G M sz)) (va_Qv (fun (u : Mem) => u = z) (Po D cy A G (Fr A G sz)) (Fr A G sz))  0 0 (Fr A G sz) := by
  refine ofB (Qc := fun sz => va_Qv (fun (u : Mem) => u = z) (Po D cy A G (Fr A G sz)) (Fr A G sz)) (by decide +kernel) (Nat.le_of_ble_eq_true rfl) ?_
  intro p e s m below meth c hx hb hr hts hown hlocks hml hmn hK hw ls hl
  have hl : lv_has ls 2 [(0, .ref (A a0)), (1, .ref (A a1))] := hl
  unfold m_X1_copyFrom at hm
  revert hw
  suffices K : ∀ (H : Heap) (locs : List Loc), WD D cy (Fr A G s.heap.size) A s.heap G M H locs → W p l e (headSpec (wm yX1_copyFrom cX1_copyFrom 2 none) ({ frames := 2, cells := 0, slots := 0, locals := 61 } : Room)).room s m ([.ref (A a0), .ref (A a1)] : List Value).toArray below meth c H locs 0 0 (MQ below (va_Qv (fun (u : Mem) => u = z) (Po D cy A G (Fr A G s.heap.size)) (Fr A G s.heap.size)) ([.ref (A a0), .ref (A a1)] : List Value).toArray s 0 0 (Fr A G s.heap.size)) (F0 m 0 ls []) from fun hw => K _ _ hw
  intro H locs hw
  refine lv_aload_n hx hb dX1_copyFrom_0 rfl (lv_at hl 0 rfl) ?_
  refine lv_aload_n hx hb dX1_copyFrom_1 rfl (lv_at hl 1 rfl) ?_
  refine g1 hx hb hts hown hK hw h1 0 (by decide) (.int (gF M a1 0)) rfl k_fl_RX1_18 (fun _ h => h) dX1_copyFrom_2 ?_
  obtain ⟨hz1, hm⟩ := ck_some hm
  refine p1 hx hb hts hown hK hw h0 0 (by decide) k_fl_RX1_18 (fun _ h => h) rfl (zb_n hz1) (zb_f hz1) dX1_copyFrom_5 (fun H locs hw => ?_)
  refine lv_aload_n hx hb dX1_copyFrom_8 rfl (lv_at hl 0 rfl) ?_
  refine lv_aload_n hx hb dX1_copyFrom_9 rfl (lv_at hl 1 rfl) ?_
  refine g1 hx hb hts hown hK hw h1 1 (by decide) (.int (gF (sF a0 0 (gF M a1 0) M) a1 1)) rfl k_fl_RX1_22 (fun _ h => h) dX1_copyFrom_10 ?_
  refine p1 hx hb hts hown hK hw h0 1 (by decide) k_fl_RX1_22 (fun _ h => h) rfl rfl rfl dX1_copyFrom_13 (fun H locs hw => ?_)
  refine lv_aload_n hx hb dX1_copyFrom_16 rfl (lv_at hl 0 rfl) ?_
  refine lv_aload_n hx hb dX1_copyFrom_17 rfl (lv_at hl 1 rfl) ?_
  refine g1 hx hb hts hown hK hw h1 2 (by decide) (.int (gF (sF a0 1 (gF (sF a0 0 (gF M a1 0) M) a1 1) (sF a0 0 (gF M a1 0) M)) a1 2)) rfl k_fl_RX1_26 (fun _ h => h) dX1_copyFrom_18 ?_
  refine p1 hx hb hts hown hK hw h0 2 (by decide) k_fl_RX1_26 (fun _ h => h) rfl rfl rfl dX1_copyFrom_21 (fun H locs hw => ?_)
  refine lv_aload_n hx hb dX1_copyFrom_24 rfl (lv_at hl 0 rfl) ?_
  refine lv_aload_n hx hb dX1_copyFrom_25 rfl (lv_at hl 1 rfl) ?_
  refine g1 hx hb hts hown hK hw h1 3 (by decide) (.int (gF (sF a0 2 (gF (sF a0 1 (gF (sF a0 0 (gF M a1 0) M) a1 1) (sF a0 0 (gF M a1 0) M)) a1 2) (sF a0 1 (gF (sF a0 0 (gF M a1 0) M) a1 1) (sF a0 0 (gF M a1 0) M))) a1 3)) rfl k_fl_RX1_29 (fun _ h => h) dX1_copyFrom_26 ?_
  refine p1 hx hb hts hown hK hw h0 3 (by decide) k_fl_RX1_29 (fun _ h => h) rfl rfl rfl dX1_copyFrom_29 (fun H locs hw => ?_)
  refine lv_aload_n hx hb dX1_copyFrom_32 rfl (lv_at hl 1 rfl) ?_
  refine g1 hx hb hts hown hK hw h1 4 (by decide) (.ref (A (a1 + 1))) rfl k_fl_RX1_9 (fun _ h => h) dX1_copyFrom_33 ?_
  have hp2 := nd_s h1
  refine lv_aload_n hx hb dX1_copyFrom_36 rfl (lv_at hl 0 rfl) ?_
  refine g1 hx hb hts hown hK hw h0 4 (by decide) (.ref (A (a0 + 1))) rfl k_fl_RX1_9 (fun _ h => h) dX1_copyFrom_37 ?_
  have hp3 := nd_s h0
  obtain ⟨z4, e5, hm⟩ := bd_some hm
  refine kv hw Fr_hi (rSN hx hb hml hts hown hK hw (c_X5_copyRow l hp2 hp3 e5) (mkSN 2 hts hK.2.2.2.2.1 k_st_yX5_copyRow k_in_RX5 k_co_yX5_copyRow hd_X5_copyRow ⟨Nat.le_of_ble_eq_true rfl, Nat.le_of_ble_eq_true rfl⟩) rfl hl.1 rfl (Nat.le_of_ble_eq_true rfl) dX1_copyFrom_40 ⟨Nat.le_of_ble_eq_true rfl, Nat.le_of_ble_eq_true rfl⟩) (fun H locs hw => ?_)
  refine lv_aload_n hx hb dX1_copyFrom_43 rfl (lv_at hl 1 rfl) ?_
  refine g1 hx hb hts hown hK hw h1 5 (by decide) (.ref (A (a1 + 2))) rfl k_fl_RX1_15 (fun _ h => h) dX1_copyFrom_44 ?_
  have hp6 := nd_i h1
  refine lv_aload_n hx hb dX1_copyFrom_47 rfl (lv_at hl 0 rfl) ?_
  refine g1 hx hb hts hown hK hw h0 5 (by decide) (.ref (A (a0 + 2))) rfl k_fl_RX1_15 (fun _ h => h) dX1_copyFrom_48 ?_
  have hp7 := nd_i h0
  obtain ⟨z8, e9, hm⟩ := bd_some hm
  refine kv hw Fr_hi (rSN hx hb hml hts hown hK hw (c_X5_copyRow l hp6 hp7 e9) (mkSN 2 hts hK.2.2.2.2.1 k_st_yX5_copyRow k_in_RX5 k_co_yX5_copyRow hd_X5_copyRow ⟨Nat.le_of_ble_eq_true rfl, Nat.le_of_ble_eq_true rfl⟩) rfl hl.1 rfl (Nat.le_of_ble_eq_true rfl) dX1_copyFrom_51 ⟨Nat.le_of_ble_eq_true rfl, Nat.le_of_ble_eq_true rfl⟩) (fun H locs hw => ?_)
  cases hm
  exact eV hx hb hr hlocks hK hw dX1_copyFrom_54
set_option maxHeartbeats 4000000 in
set_option maxRecDepth 100000 in
theorem c_X1_isFencedFor (l : Launch) {D : va_G} {cy : Nat → ClassId} {A : Nat → Nat} {G : Nat → Bool} {M : Mem} {sz : Nat} {a0 : Nat} {x1 : Int32} (h0 : TT G 1 a0)  {z : Int32} (hm : m_X1_isFencedFor a0 x1 M = some z) : Met l yX1_isFencedFor (wm yX1_isFencedFor cX1_isFencedFor 2 (some .boolean)) ({ frames := 1, cells := 0, slots := 0, locals := 21 } : Room) (va_Pc [.ref (A a0), .int x1] (Pr D cy A G M sz)) (va_Qi (fun (r' : Int32) (u : Mem) => r' = z ∧ u = M) (Po D cy A G (Fr A G sz)) (Fr A G sz))  0 0 (Fr A G sz) := by
  refine ofB (Qc := fun sz => va_Qi (fun (r' : Int32) (u : Mem) => r' = z ∧ u = M) (Po D cy A G (Fr A G sz)) (Fr A G sz)) (by decide +kernel) (Nat.le_of_ble_eq_true rfl) ?_
  intro p e s m below meth c hx hb hr hts hown hlocks hml hmn hK hw ls hl
  have hl : lv_has ls 2 [(0, .ref (A a0)), (1, .int x1)] := hl
  unfold m_X1_isFencedFor at hm
  revert hw
  suffices K : ∀ (H : Heap) (locs : List Loc), WD D cy (Fr A G s.heap.size) A s.heap G M H locs → W p l e (headSpec (wm yX1_isFencedFor cX1_isFencedFor 2 (some .boolean)) ({ frames := 1, cells := 0, slots := 0, locals := 21 } : Room)).room s m ([.ref (A a0), .int x1] : List Value).toArray below meth c H locs 0 0 (MQ below (va_Qi (fun (r' : Int32) (u : Mem) => r' = z ∧ u = M) (Po D cy A G (Fr A G s.heap.size)) (Fr A G s.heap.size)) ([.ref (A a0), .int x1] : List Value).toArray s 0 0 (Fr A G s.heap.size)) (F0 m 0 ls []) from fun hw => K _ _ hw
  intro H locs hw
  refine lv_aload_n hx hb dX1_isFencedFor_0 rfl (lv_at hl 0 rfl) ?_
  refine g1 hx hb hts hown hK hw h0 1 (by decide) (.int (gF M a0 1)) rfl k_fl_RX1_22 (fun _ h => h) dX1_isFencedFor_1 ?_
  refine lv_iload_n hx hb dX1_isFencedFor_4 rfl (lv_at hl 1 rfl) ?_
  refine ki hw Fr_hi (rSN hx hb hml hts hown hK hw (c_X5_contains l (gF M a0 1) x1) (mkSN 2 hts hK.2.2.2.2.2.1 k_st_yX5_contains k_in_RX5 k_co_yX5_contains hd_X5_contains ⟨Nat.le_of_ble_eq_true rfl, Nat.le_of_ble_eq_true rfl⟩) rfl hl.1 rfl (Nat.le_of_ble_eq_true rfl) dX1_isFencedFor_5 ⟨Nat.le_of_ble_eq_true rfl, Nat.le_of_ble_eq_true rfl⟩) (fun H locs hw => ?_)
  obtain ⟨hz1, hm⟩ := ck_some hm
  cases hm
  exact eZ hz1 hx hb hr hlocks hK hw dX1_isFencedFor_8
set_option maxHeartbeats 4000000 in
set_option maxRecDepth 100000 in
theorem c_X1_fenceFor (l : Launch) {D : va_G} {cy : Nat → ClassId} {A : Nat → Nat} {G : Nat → Bool} {M : Mem} {sz : Nat} {a0 : Nat} (h0 : TT G 1 a0) (x1 : Int32)  : Met l yX1_fenceFor (wm yX1_fenceFor cX1_fenceFor 2 none) ({ frames := 0, cells := 0, slots := 0, locals := 0 } : Room) (va_Pc [.ref (A a0), .int x1] (Pr D cy A G M sz)) (va_Qv (fun (u : Mem) => u = (m_X1_fenceFor a0 x1 M)) (Po D cy A G (Fr A G sz)) (Fr A G sz))  0 0 (Fr A G sz) := by
  refine ofB (Qc := fun sz => va_Qv (fun (u : Mem) => u = (m_X1_fenceFor a0 x1 M)) (Po D cy A G (Fr A G sz)) (Fr A G sz)) (by decide +kernel) (Nat.le_of_ble_eq_true rfl) ?_
  intro p e s m below meth c hx hb hr hts hown hlocks hml hmn hK hw ls hl
  have hl : lv_has ls 2 [(0, .ref (A a0)), (1, .int x1)] := hl
  generalize hm : m_X1_fenceFor a0 x1 M = z
  unfold m_X1_fenceFor at hm
  revert hw
  suffices K : ∀ (H : Heap) (locs : List Loc), WD D cy (Fr A G s.heap.size) A s.heap G M H locs → W p l e (headSpec (wm yX1_fenceFor cX1_fenceFor 2 none) ({ frames := 0, cells := 0, slots := 0, locals := 0 } : Room)).room s m ([.ref (A a0), .int x1] : List Value).toArray below meth c H locs 0 0 (MQ below (va_Qv (fun (u : Mem) => u = z) (Po D cy A G (Fr A G s.heap.size)) (Fr A G s.heap.size)) ([.ref (A a0), .int x1] : List Value).toArray s 0 0 (Fr A G s.heap.size)) (F0 m 0 ls []) from fun hw => K _ _ hw
  intro H locs hw
  refine lv_aload_n hx hb dX1_fenceFor_0 rfl (lv_at hl 0 rfl) ?_
  refine lv_dup hx hb dX1_fenceFor_1 rfl ?_
  refine g1 hx hb hts hown hK hw h0 1 (by decide) (.int (gF M a0 1)) rfl k_fl_RX1_22 (fun _ h => h) dX1_fenceFor_2 ?_
  refine lv_iconst (v := 1) hx hb dX1_fenceFor_5 (by decide) ?_
  refine lv_iload_n hx hb dX1_fenceFor_6 rfl (lv_at hl 1 rfl) ?_
  refine lv_ishl hx hb dX1_fenceFor_7 ?_
  refine lv_ior hx hb dX1_fenceFor_8 ?_
  refine p1 hx hb hts hown hK hw h0 1 (by decide) k_fl_RX1_22 (fun _ h => h) rfl rfl rfl dX1_fenceFor_9 (fun H locs hw => ?_)
  cases hm
  exact eV hx hb hr hlocks hK hw dX1_fenceFor_12
set_option maxHeartbeats 4000000 in
set_option maxRecDepth 100000 in
theorem c_X1_receive (l : Launch) {D : va_G} {cy : Nat → ClassId} {A : Nat → Nat} {G : Nat → Bool} {M : Mem} {sz : Nat} {a0 : Nat} {x1 : Int32} (h0 : TT G 1 a0)  {z : Mem} (hm : m_X1_receive a0 x1 M = some z) : Met l yX1_receive (wm yX1_receive cX1_receive 2 none) ({ frames := 0, cells := 0, slots := 0, locals := 0 } : Room) (va_Pc [.ref (A a0), .int x1] (Pr D cy A G M sz)) (va_Qv (fun (u : Mem) => u = z) (Po D cy A G (Fr A G sz)) (Fr A G sz))  0 0 (Fr A G sz) := by
  refine ofB (Qc := fun sz => va_Qv (fun (u : Mem) => u = z) (Po D cy A G (Fr A G sz)) (Fr A G sz)) (by decide +kernel) (Nat.le_of_ble_eq_true rfl) ?_
  intro p e s m below meth c hx hb hr hts hown hlocks hml hmn hK hw ls hl
  have hl : lv_has ls 2 [(0, .ref (A a0)), (1, .int x1)] := hl
  unfold m_X1_receive at hm
  revert hw
  suffices K : ∀ (H : Heap) (locs : List Loc), WD D cy (Fr A G s.heap.size) A s.heap G M H locs → W p l e (headSpec (wm yX1_receive cX1_receive 2 none) ({ frames := 0, cells := 0, slots := 0, locals := 0 } : Room)).room s m ([.ref (A a0), .int x1] : List Value).toArray below meth c H locs 0 0 (MQ below (va_Qv (fun (u : Mem) => u = z) (Po D cy A G (Fr A G s.heap.size)) (Fr A G s.heap.size)) ([.ref (A a0), .int x1] : List Value).toArray s 0 0 (Fr A G s.heap.size)) (F0 m 0 ls []) from fun hw => K _ _ hw
  intro H locs hw
  refine lv_aload_n hx hb dX1_receive_0 rfl (lv_at hl 0 rfl) ?_
  refine g1 hx hb hts hown hK hw h0 0 (by decide) (.int (gF M a0 0)) rfl k_fl_RX1_18 (fun _ h => h) dX1_receive_1 ?_
  refine lv_if_eq (tgt := 46) hx hb dX1_receive_4 (by decide) (fun hq1 => ?_) (fun hq1 => ?_)
  · have hm := (if_pos hq1).symm.trans hm
    cases hm
    exact eV hx hb hr hlocks hK hw dX1_receive_46
  · have hm := (if_neg hq1).symm.trans hm
    refine lv_aload_n hx hb dX1_receive_7 rfl (lv_at hl 0 rfl) ?_
    refine g1 hx hb hts hown hK hw h0 3 (by decide) (.int (gF M a0 3)) rfl k_fl_RX1_29 (fun _ h => h) dX1_receive_8 ?_
    refine lv_if_lt (tgt := 46) hx hb dX1_receive_11 (by decide) (fun hq2 => ?_) (fun hq2 => ?_)
    · have hm := (if_pos hq2).symm.trans hm
      cases hm
      exact eV hx hb hr hlocks hK hw dX1_receive_46
    · have hm := (if_neg hq2).symm.trans hm
      refine lv_aload_n hx hb dX1_receive_14 rfl (lv_at hl 0 rfl) ?_
      refine g1 hx hb hts hown hK hw h0 3 (by decide) (.int (gF M a0 3)) rfl k_fl_RX1_29 (fun _ h => h) dX1_receive_15 ?_
      refine lv_aload_n hx hb dX1_receive_18 rfl (lv_at hl 0 rfl) ?_
      refine g1 hx hb hts hown hK hw h0 5 (by decide) (.ref (A (a0 + 2))) rfl k_fl_RX1_15 (fun _ h => h) dX1_receive_19 ?_
      have hp3 := nd_i h0
      refine lI (v := 100) hx hb hK hw hp3 rfl dX1_receive_22 ?_
      refine lv_icmp_ge (tgt := 46) hx hb dX1_receive_23 (by decide) (fun hq4 => ?_) (fun hq4 => ?_)
      · have hm := (if_pos hq4).symm.trans hm
        cases hm
        exact eV hx hb hr hlocks hK hw dX1_receive_46
      · have hm := (if_neg hq4).symm.trans hm
        refine lv_aload_n hx hb dX1_receive_26 rfl (lv_at hl 0 rfl) ?_
        refine g1 hx hb hts hown hK hw h0 5 (by decide) (.ref (A (a0 + 2))) rfl k_fl_RX1_15 (fun _ h => h) dX1_receive_27 ?_
        have hp5 := nd_i h0
        refine lv_aload_n hx hb dX1_receive_30 rfl (lv_at hl 0 rfl) ?_
        refine g1 hx hb hts hown hK hw h0 3 (by decide) (.int (gF M a0 3)) rfl k_fl_RX1_29 (fun _ h => h) dX1_receive_31 ?_
        refine lv_iload_n hx hb dX1_receive_34 rfl (lv_at hl 1 rfl) ?_
        obtain ⟨hi6, hm⟩ := ck_some hm
        refine pI hx hb hK hw hp5 hi6 dX1_receive_35 (fun H locs hw => ?_)
        refine lv_aload_n hx hb dX1_receive_36 rfl (lv_at hl 0 rfl) ?_
        refine lv_dup hx hb dX1_receive_37 rfl ?_
        refine g1 hx hb hts hown hK hw h0 3 (by decide) (.int (gF (aI (a0 + 2) (gF M a0 3) x1 M) a0 3)) rfl k_fl_RX1_29 (fun _ h => h) dX1_receive_38 ?_
        refine lv_iconst (v := 1) hx hb dX1_receive_41 (by decide) ?_
        refine lv_iadd hx hb dX1_receive_42 ?_
        refine p1 hx hb hts hown hK hw h0 3 (by decide) k_fl_RX1_29 (fun _ h => h) rfl rfl rfl dX1_receive_43 (fun H locs hw => ?_)
        cases hm
        exact eV hx hb hr hlocks hK hw dX1_receive_46
set_option maxHeartbeats 4000000 in
set_option maxRecDepth 100000 in
theorem c_X1_takeOldest (l : Launch) {D : va_G} {cy : Nat → ClassId} {A : Nat → Nat} {G : Nat → Bool} {M : Mem} {sz : Nat} {a0 : Nat} (h0 : TT G 1 a0)  {z : (Int32 × Mem)} (hm : m_X1_takeOldest a0 M = some z) : Met l yX1_takeOldest (wm yX1_takeOldest cX1_takeOldest 2 (some .int)) ({ frames := 1, cells := 0, slots := 0, locals := 40 } : Room) (va_Pc [.ref (A a0)] (Pr D cy A G M sz)) (va_Qi (fun (r' : Int32) (u : Mem) => r' = z.1 ∧ u = z.2) (Po D cy A G (Fr A G sz)) (Fr A G sz))  0 0 (Fr A G sz) := by
  refine ofB (Qc := fun sz => va_Qi (fun (r' : Int32) (u : Mem) => r' = z.1 ∧ u = z.2) (Po D cy A G (Fr A G sz)) (Fr A G sz)) (by decide +kernel) (Nat.le_of_ble_eq_true rfl) ?_
  intro p e s m below meth c hx hb hr hts hown hlocks hml hmn hK hw ls hl
  have hl : lv_has ls 2 [(0, .ref (A a0))] := hl
  unfold m_X1_takeOldest at hm
  revert hw
  suffices K : ∀ (H : Heap) (locs : List Loc), WD D cy (Fr A G s.heap.size) A s.heap G M H locs → W p l e (headSpec (wm yX1_takeOldest cX1_takeOldest 2 (some .int)) ({ frames := 1, cells := 0, slots := 0, locals := 40 } : Room)).room s m ([.ref (A a0)] : List Value).toArray below meth c H locs 0 0 (MQ below (va_Qi (fun (r' : Int32) (u : Mem) => r' = z.1 ∧ u = z.2) (Po D cy A G (Fr A G s.heap.size)) (Fr A G s.heap.size)) ([.ref (A a0)] : List Value).toArray s 0 0 (Fr A G s.heap.size)) (F0 m 0 ls []) from fun hw => K _ _ hw
  intro H locs hw
  refine lv_aload_n hx hb dX1_takeOldest_0 rfl (lv_at hl 0 rfl) ?_
  refine g1 hx hb hts hown hK hw h0 3 (by decide) (.int (gF M a0 3)) rfl k_fl_RX1_29 (fun _ h => h) dX1_takeOldest_1 ?_
  refine lv_iconst (v := 1) hx hb dX1_takeOldest_4 (by decide) ?_
  refine lv_icmp_lt (tgt := 20) hx hb dX1_takeOldest_5 (by decide) (fun hq1 => ?_) (fun hq1 => ?_)
  · have hm := (if_pos hq1).symm.trans hm
    refine lv_iconst (v := (-1)) hx hb dX1_takeOldest_20 (by decide) ?_
    cases hm
    exact eI hx hb hr hlocks hK hw dX1_takeOldest_21
  · have hm := (if_neg hq1).symm.trans hm
    refine lv_aload_n hx hb dX1_takeOldest_8 rfl (lv_at hl 0 rfl) ?_
    refine g1 hx hb hts hown hK hw h0 3 (by decide) (.int (gF M a0 3)) rfl k_fl_RX1_29 (fun _ h => h) dX1_takeOldest_9 ?_
    refine lv_aload_n hx hb dX1_takeOldest_12 rfl (lv_at hl 0 rfl) ?_
    refine g1 hx hb hts hown hK hw h0 5 (by decide) (.ref (A (a0 + 2))) rfl k_fl_RX1_15 (fun _ h => h) dX1_takeOldest_13 ?_
    have hp2 := nd_i h0
    refine lI (v := 100) hx hb hK hw hp2 rfl dX1_takeOldest_16 ?_
    refine lv_icmp_le (tgt := 22) hx hb dX1_takeOldest_17 (by decide) (fun hq3 => ?_) (fun hq3 => ?_)
    · have hm := (if_pos hq3).symm.trans hm
      refine lv_aload_n hx hb dX1_takeOldest_22 rfl (lv_at hl 0 rfl) ?_
      refine g1 hx hb hts hown hK hw h0 5 (by decide) (.ref (A (a0 + 2))) rfl k_fl_RX1_15 (fun _ h => h) dX1_takeOldest_23 ?_
      have hp4 := nd_i h0
      refine lv_iconst (v := 0) hx hb dX1_takeOldest_26 (by decide) ?_
      obtain ⟨hi5, hm⟩ := ck_some hm
      refine gI hx hb hK hw hp4 hi5 dX1_takeOldest_27 ?_
      refine lv_istore_n (lv' := [(1, .int (gR M (a0 + 2) (cl 0))), (0, .ref (A a0))]) hx hb dX1_takeOldest_28 rfl hl (by decide) rfl (fun ls hl => ?_)
      refine lv_aload_n hx hb dX1_takeOldest_29 rfl (lv_at hl 1 rfl) ?_
      refine lv_dup hx hb dX1_takeOldest_30 rfl ?_
      refine g1 hx hb hts hown hK hw h0 3 (by decide) (.int (gF M a0 3)) rfl k_fl_RX1_29 (fun _ h => h) dX1_takeOldest_31 ?_
      refine lv_iconst (v := 1) hx hb dX1_takeOldest_34 (by decide) ?_
      refine lv_isub hx hb dX1_takeOldest_35 ?_
      refine p1 hx hb hts hown hK hw h0 3 (by decide) k_fl_RX1_29 (fun _ h => h) rfl rfl rfl dX1_takeOldest_36 (fun H locs hw => ?_)
      refine lv_aload_n hx hb dX1_takeOldest_39 rfl (lv_at hl 1 rfl) ?_
      refine g1 hx hb hts hown hK hw h0 5 (by decide) (.ref (A (a0 + 2))) rfl k_fl_RX1_15 (fun _ h => h) dX1_takeOldest_40 ?_
      have hp6 := nd_i h0
      refine lv_iconst (v := 1) hx hb dX1_takeOldest_43 (by decide) ?_
      refine lv_aload_n hx hb dX1_takeOldest_44 rfl (lv_at hl 1 rfl) ?_
      refine g1 hx hb hts hown hK hw h0 5 (by decide) (.ref (A (a0 + 2))) rfl k_fl_RX1_15 (fun _ h => h) dX1_takeOldest_45 ?_
      have hp7 := nd_i h0
      refine lv_iconst (v := 0) hx hb dX1_takeOldest_48 (by decide) ?_
      refine lv_aload_n hx hb dX1_takeOldest_49 rfl (lv_at hl 1 rfl) ?_
      refine g1 hx hb hts hown hK hw h0 3 (by decide) (.int (gF (sF a0 3 ((gF M a0 3) - 1) M) a0 3)) rfl k_fl_RX1_29 (fun _ h => h) dX1_takeOldest_50 ?_
      obtain ⟨hc8, hm⟩ := ck_some hm
      obtain ⟨hc9, hm⟩ := ck_some hm
      obtain ⟨hc10, hm⟩ := ck_some hm
      obtain ⟨hc11, hm⟩ := ck_some hm
      obtain ⟨hc12, hm⟩ := ck_some hm
      refine cpI hx hb (hml.trans hl.1.symm) hts hown hK hw k_ml_RX1_46 hp6 hp7 hc8 hc9 hc10 hc11 hc12 (Nat.le_of_ble_eq_true rfl) (by decide) dX1_takeOldest_53 (fun H locs hw => ?_)
      refine lv_iload_n hx hb dX1_takeOldest_56 rfl (lv_at hl 0 rfl) ?_
      cases hm
      exact eI hx hb hr hlocks hK hw dX1_takeOldest_57
    · have hm := (if_neg hq3).symm.trans hm
      refine lv_iconst (v := (-1)) hx hb dX1_takeOldest_20 (by decide) ?_
      cases hm
      exact eI hx hb hr hlocks hK hw dX1_takeOldest_21
set_option maxHeartbeats 4000000 in
set_option maxRecDepth 100000 in
theorem c_X1_slotOf (l : Launch) {D : va_G} {cy : Nat → ClassId} {A : Nat → Nat} {G : Nat → Bool} {M : Mem} {sz : Nat}   (x0 : Int32) (x1 : Int32)  : Met l yX1_slotOf (wm yX1_slotOf cX1_slotOf 3 (some .int)) ({ frames := 0, cells := 0, slots := 0, locals := 0 } : Room) (va_Pc [.int x0, .int x1] (Pr D cy A G M sz)) (va_Qi (fun (r' : Int32) (u : Mem) => r' = (m_X1_slotOf x0 x1) ∧ u = M) (Po D cy A G (Fr A G sz)) (Fr A G sz))  0 0 (Fr A G sz) := by
  refine ofB (Qc := fun sz => va_Qi (fun (r' : Int32) (u : Mem) => r' = (m_X1_slotOf x0 x1) ∧ u = M) (Po D cy A G (Fr A G sz)) (Fr A G sz)) (by decide +kernel) (Nat.le_of_ble_eq_true rfl) ?_
  intro p e s m below meth c hx hb hr hts hown hlocks hml hmn hK hw ls hl
  have hl : lv_has ls 3 [(0, .int x0), (1, .int x1)] := hl
  generalize hm : m_X1_slotOf x0 x1 = z
  have J24 : ∀  (u0 : Int32), m_X1_slotOf_b24 x0 x1 u0 = z → ∀ (H : Heap) (locs : List Loc), WD D cy (Fr A G s.heap.size) A s.heap G M H locs → ∀ ls : Array Slot, lv_has ls 3 [(0, .int x0), (1, .int x1)] → W p l e (headSpec (wm yX1_slotOf cX1_slotOf 3 (some .int)) ({ frames := 0, cells := 0, slots := 0, locals := 0 } : Room)).room s m ([.int x0, .int x1] : List Value).toArray below meth c H locs 0 0 (MQ below (va_Qi (fun (r' : Int32) (u : Mem) => r' = z ∧ u = M) (Po D cy A G (Fr A G s.heap.size)) (Fr A G s.heap.size)) ([.int x0, .int x1] : List Value).toArray s 0 0 (Fr A G s.heap.size)) (F0 m 24 ls [.int u0]) := by
    intro u0 hm H locs hw ls hl
    unfold m_X1_slotOf_b24 at hm
    refine lv_istore_n (lv' := [(2, .int u0), (0, .int x0), (1, .int x1)]) hx hb dX1_slotOf_24 rfl hl (by decide) rfl (fun ls hl => ?_)
    refine lv_iload_n hx hb dX1_slotOf_25 rfl (lv_at hl 0 rfl) ?_
    refine lv_if_eq (tgt := 38) hx hb dX1_slotOf_26 (by decide) (fun hq2 => ?_) (fun hq2 => ?_)
    · have hm := (if_pos hq2).symm.trans hm
      refine lv_iconst (v := (-1)) hx hb dX1_slotOf_38 (by decide) ?_
      cases hm
      exact eI hx hb hr hlocks hK hw dX1_slotOf_39
    · have hm := (if_neg hq2).symm.trans hm
      refine lv_iload_n hx hb dX1_slotOf_29 rfl (lv_at hl 1 rfl) ?_
      refine lv_bipush (v := 40) hx hb dX1_slotOf_30 (by decide) ?_
      refine lv_imul hx hb dX1_slotOf_32 ?_
      refine lv_iload_n hx hb dX1_slotOf_33 rfl (lv_at hl 2 rfl) ?_
      refine lv_iadd hx hb dX1_slotOf_34 ?_
      refine lv_goto (tgt := 39) hx hb dX1_slotOf_35 (by decide) ?_
      cases hm
      exact eI hx hb hr hlocks hK hw dX1_slotOf_39
  unfold m_X1_slotOf at hm
  revert hw
  suffices K : ∀ (H : Heap) (locs : List Loc), WD D cy (Fr A G s.heap.size) A s.heap G M H locs → W p l e (headSpec (wm yX1_slotOf cX1_slotOf 3 (some .int)) ({ frames := 0, cells := 0, slots := 0, locals := 0 } : Room)).room s m ([.int x0, .int x1] : List Value).toArray below meth c H locs 0 0 (MQ below (va_Qi (fun (r' : Int32) (u : Mem) => r' = z ∧ u = M) (Po D cy A G (Fr A G s.heap.size)) (Fr A G s.heap.size)) ([.int x0, .int x1] : List Value).toArray s 0 0 (Fr A G s.heap.size)) (F0 m 0 ls []) from fun hw => K _ _ hw
  intro H locs hw
  refine lv_iload_n hx hb dX1_slotOf_0 rfl (lv_at hl 0 rfl) ?_
  refine lv_if_lt (tgt := 23) hx hb dX1_slotOf_1 (by decide) (fun hq1 => ?_) (fun hq1 => ?_)
  · have hm := (if_pos hq1).symm.trans hm
    refine lv_iconst (v := 0) hx hb dX1_slotOf_23 (by decide) ?_
    exact J24 0 hm H locs hw ls hl
  · have hm := (if_neg hq1).symm.trans hm
    refine lv_iload_n hx hb dX1_slotOf_4 rfl (lv_at hl 0 rfl) ?_
    refine lv_iconst (v := 4) hx hb dX1_slotOf_5 (by decide) ?_
    refine lv_icmp_ge (tgt := 23) hx hb dX1_slotOf_6 (by decide) (fun hq3 => ?_) (fun hq3 => ?_)
    · have hm := (if_pos hq3).symm.trans hm
      refine lv_iconst (v := 0) hx hb dX1_slotOf_23 (by decide) ?_
      exact J24 0 hm H locs hw ls hl
    · have hm := (if_neg hq3).symm.trans hm
      refine lv_iload_n hx hb dX1_slotOf_9 rfl (lv_at hl 1 rfl) ?_
      refine lv_if_lt (tgt := 23) hx hb dX1_slotOf_10 (by decide) (fun hq4 => ?_) (fun hq4 => ?_)
      · have hm := (if_pos hq4).symm.trans hm
        refine lv_iconst (v := 0) hx hb dX1_slotOf_23 (by decide) ?_
        exact J24 0 hm H locs hw ls hl
      · have hm := (if_neg hq4).symm.trans hm
        refine lv_iload_n hx hb dX1_slotOf_13 rfl (lv_at hl 1 rfl) ?_
        refine lv_bipush (v := 40) hx hb dX1_slotOf_14 (by decide) ?_
        refine lv_icmp_ge (tgt := 23) hx hb dX1_slotOf_16 (by decide) (fun hq5 => ?_) (fun hq5 => ?_)
        · have hm := (if_pos hq5).symm.trans hm
          refine lv_iconst (v := 0) hx hb dX1_slotOf_23 (by decide) ?_
          exact J24 0 hm H locs hw ls hl
        · have hm := (if_neg hq5).symm.trans hm
          refine lv_iconst (v := 1) hx hb dX1_slotOf_19 (by decide) ?_
          refine lv_goto (tgt := 24) hx hb dX1_slotOf_20 (by decide) ?_
          exact J24 1 hm H locs hw ls hl
set_option maxHeartbeats 4000000 in
set_option maxRecDepth 100000 in
theorem c_X1_keep (l : Launch) {D : va_G} {cy : Nat → ClassId} {A : Nat → Nat} {G : Nat → Bool} {M : Mem} {sz : Nat} {a0 : Nat} {x1 : Int32} (h0 : TT G 1 a0)  {z : Mem} (hm : m_X1_keep a0 x1 M = some z) : Met l yX1_keep (wm yX1_keep cX1_keep 3 none) ({ frames := 1, cells := 0, slots := 0, locals := 22 } : Room) (va_Pc [.ref (A a0), .int x1] (Pr D cy A G M sz)) (va_Qv (fun (u : Mem) => u = z) (Po D cy A G (Fr A G sz)) (Fr A G sz))  0 0 (Fr A G sz) := by
  refine ofB (Qc := fun sz => va_Qv (fun (u : Mem) => u = z) (Po D cy A G (Fr A G sz)) (Fr A G sz)) (by decide +kernel) (Nat.le_of_ble_eq_true rfl) ?_
  intro p e s m below meth c hx hb hr hts hown hlocks hml hmn hK hw ls hl
  have hl : lv_has ls 3 [(0, .ref (A a0)), (1, .int x1)] := hl
  unfold m_X1_keep at hm
  revert hw
  suffices K : ∀ (H : Heap) (locs : List Loc), WD D cy (Fr A G s.heap.size) A s.heap G M H locs → W p l e (headSpec (wm yX1_keep cX1_keep 3 none) ({ frames := 1, cells := 0, slots := 0, locals := 22 } : Room)).room s m ([.ref (A a0), .int x1] : List Value).toArray below meth c H locs 0 0 (MQ below (va_Qv (fun (u : Mem) => u = z) (Po D cy A G (Fr A G s.heap.size)) (Fr A G s.heap.size)) ([.ref (A a0), .int x1] : List Value).toArray s 0 0 (Fr A G s.heap.size)) (F0 m 0 ls []) from fun hw => K _ _ hw
  intro H locs hw
  refine lv_iload_n hx hb dX1_keep_0 rfl (lv_at hl 1 rfl) ?_
  refine ki hw Fr_hi (rS hx hb hml hts hown hK hw (c_X2_ledgerOf l x1) (mkS 1 hts k_ml_RX1_52 k_st_yX2_ledgerOf k_in_RX2 k_co_yX2_ledgerOf hd_X2_ledgerOf ⟨Nat.le_of_ble_eq_true rfl, Nat.le_of_ble_eq_true rfl⟩) rfl hl.1 rfl (Nat.le_of_ble_eq_true rfl) dX1_keep_1 ⟨Nat.le_of_ble_eq_true rfl, Nat.le_of_ble_eq_true rfl⟩) (fun H locs hw => ?_)
  refine lv_iload_n hx hb dX1_keep_4 rfl (lv_at hl 1 rfl) ?_
  refine ki hw Fr_hi (rS hx hb hml hts hown hK hw (c_X2_entryOf l x1) (mkS 1 hts k_ml_RX1_58 k_st_yX2_entryOf k_in_RX2 k_co_yX2_entryOf hd_X2_entryOf ⟨Nat.le_of_ble_eq_true rfl, Nat.le_of_ble_eq_true rfl⟩) rfl hl.1 rfl (Nat.le_of_ble_eq_true rfl) dX1_keep_5 ⟨Nat.le_of_ble_eq_true rfl, Nat.le_of_ble_eq_true rfl⟩) (fun H locs hw => ?_)
  refine ki hw Fr_hi (rS hx hb hml hts hown hK hw (c_X1_slotOf l (m_X2_ledgerOf x1) (m_X2_entryOf x1)) (mkS 2 hts k_ml_RX1_61 k_st_yX1_slotOf k_in_RX1 k_co_yX1_slotOf hd_X1_slotOf ⟨Nat.le_of_ble_eq_true rfl, Nat.le_of_ble_eq_true rfl⟩) rfl hl.1 rfl (Nat.le_of_ble_eq_true rfl) dX1_keep_8 ⟨Nat.le_of_ble_eq_true rfl, Nat.le_of_ble_eq_true rfl⟩) (fun H locs hw => ?_)
  refine lv_istore_n (lv' := [(2, .int (m_X1_slotOf (m_X2_ledgerOf x1) (m_X2_entryOf x1))), (0, .ref (A a0)), (1, .int x1)]) hx hb dX1_keep_11 rfl hl (by decide) rfl (fun ls hl => ?_)
  refine lv_iload_n hx hb dX1_keep_12 rfl (lv_at hl 0 rfl) ?_
  refine lv_if_lt (tgt := 25) hx hb dX1_keep_13 (by decide) (fun hq1 => ?_) (fun hq1 => ?_)
  · have hm := (if_pos hq1).symm.trans hm
    cases hm
    exact eV hx hb hr hlocks hK hw dX1_keep_25
  · have hm := (if_neg hq1).symm.trans hm
    refine lv_iload_n hx hb dX1_keep_16 rfl (lv_at hl 0 rfl) ?_
    refine lv_aload_n hx hb dX1_keep_17 rfl (lv_at hl 1 rfl) ?_
    refine g1 hx hb hts hown hK hw h0 4 (by decide) (.ref (A (a0 + 1))) rfl k_fl_RX1_9 (fun _ h => h) dX1_keep_18 ?_
    have hp2 := nd_s h0
    refine lI (v := 160) hx hb hK hw hp2 rfl dX1_keep_21 ?_
    refine lv_icmp_lt (tgt := 26) hx hb dX1_keep_22 (by decide) (fun hq3 => ?_) (fun hq3 => ?_)
    · have hm := (if_pos hq3).symm.trans hm
      refine lv_aload_n hx hb dX1_keep_26 rfl (lv_at hl 1 rfl) ?_
      refine g1 hx hb hts hown hK hw h0 4 (by decide) (.ref (A (a0 + 1))) rfl k_fl_RX1_9 (fun _ h => h) dX1_keep_27 ?_
      have hp4 := nd_s h0
      refine lv_iload_n hx hb dX1_keep_30 rfl (lv_at hl 0 rfl) ?_
      obtain ⟨hi5, hm⟩ := ck_some hm
      refine gI hx hb hK hw hp4 hi5 dX1_keep_31 ?_
      refine lv_iconst (v := (-1)) hx hb dX1_keep_32 (by decide) ?_
      refine lv_icmp_ne (tgt := 46) hx hb dX1_keep_33 (by decide) (fun hq6 => ?_) (fun hq6 => ?_)
      · have hm := (if_neg hq6).symm.trans hm
        refine lv_aload_n hx hb dX1_keep_46 rfl (lv_at hl 1 rfl) ?_
        refine g1 hx hb hts hown hK hw h0 4 (by decide) (.ref (A (a0 + 1))) rfl k_fl_RX1_9 (fun _ h => h) dX1_keep_47 ?_
        have hp7 := nd_s h0
        refine lv_iload_n hx hb dX1_keep_50 rfl (lv_at hl 0 rfl) ?_
        refine lv_iload_n hx hb dX1_keep_51 rfl (lv_at hl 2 rfl) ?_
        obtain ⟨hi8, hm⟩ := ck_some hm
        refine pI hx hb hK hw hp7 hi8 dX1_keep_52 (fun H locs hw => ?_)
        cases hm
        exact eV hx hb hr hlocks hK hw dX1_keep_53
      · have hm := (if_pos hq6).symm.trans hm
        refine lv_aload_n hx hb dX1_keep_36 rfl (lv_at hl 1 rfl) ?_
        refine lv_dup hx hb dX1_keep_37 rfl ?_
        refine g1 hx hb hts hown hK hw h0 2 (by decide) (.int (gF M a0 2)) rfl k_fl_RX1_26 (fun _ h => h) dX1_keep_38 ?_
        refine lv_iconst (v := 1) hx hb dX1_keep_41 (by decide) ?_
        refine lv_iadd hx hb dX1_keep_42 ?_
        refine p1 hx hb hts hown hK hw h0 2 (by decide) k_fl_RX1_26 (fun _ h => h) rfl rfl rfl dX1_keep_43 (fun H locs hw => ?_)
        refine lv_aload_n hx hb dX1_keep_46 rfl (lv_at hl 1 rfl) ?_
        refine g1 hx hb hts hown hK hw h0 4 (by decide) (.ref (A (a0 + 1))) rfl k_fl_RX1_9 (fun _ h => h) dX1_keep_47 ?_
        have hp9 := nd_s h0
        refine lv_iload_n hx hb dX1_keep_50 rfl (lv_at hl 0 rfl) ?_
        refine lv_iload_n hx hb dX1_keep_51 rfl (lv_at hl 2 rfl) ?_
        obtain ⟨hi10, hm⟩ := ck_some hm
        refine pI hx hb hK hw hp9 hi10 dX1_keep_52 (fun H locs hw => ?_)
        cases hm
        exact eV hx hb hr hlocks hK hw dX1_keep_53
    · have hm := (if_neg hq3).symm.trans hm
      cases hm
      exact eV hx hb hr hlocks hK hw dX1_keep_25
set_option maxHeartbeats 4000000 in
set_option maxRecDepth 100000 in
theorem c_X1_storedParcel (l : Launch) {D : va_G} {cy : Nat → ClassId} {A : Nat → Nat} {G : Nat → Bool} {M : Mem} {sz : Nat} {a0 : Nat} {x1 : Int32} {x2 : Int32} (h0 : TT G 1 a0)  {z : Int32} (hm : m_X1_storedParcel a0 x1 x2 M = some z) : Met l yX1_storedParcel (wm yX1_storedParcel cX1_storedParcel 4 (some .int)) ({ frames := 1, cells := 0, slots := 0, locals := 22 } : Room) (va_Pc [.ref (A a0), .int x1, .int x2] (Pr D cy A G M sz)) (va_Qi (fun (r' : Int32) (u : Mem) => r' = z ∧ u = M) (Po D cy A G (Fr A G sz)) (Fr A G sz))  0 0 (Fr A G sz) := by
  refine ofB (Qc := fun sz => va_Qi (fun (r' : Int32) (u : Mem) => r' = z ∧ u = M) (Po D cy A G (Fr A G sz)) (Fr A G sz)) (by decide +kernel) (Nat.le_of_ble_eq_true rfl) ?_
  intro p e s m below meth c hx hb hr hts hown hlocks hml hmn hK hw ls hl
  have hl : lv_has ls 4 [(0, .ref (A a0)), (1, .int x1), (2, .int x2)] := hl
  unfold m_X1_storedParcel at hm
  revert hw
  suffices K : ∀ (H : Heap) (locs : List Loc), WD D cy (Fr A G s.heap.size) A s.heap G M H locs → W p l e (headSpec (wm yX1_storedParcel cX1_storedParcel 4 (some .int)) ({ frames := 1, cells := 0, slots := 0, locals := 22 } : Room)).room s m ([.ref (A a0), .int x1, .int x2] : List Value).toArray below meth c H locs 0 0 (MQ below (va_Qi (fun (r' : Int32) (u : Mem) => r' = z ∧ u = M) (Po D cy A G (Fr A G s.heap.size)) (Fr A G s.heap.size)) ([.ref (A a0), .int x1, .int x2] : List Value).toArray s 0 0 (Fr A G s.heap.size)) (F0 m 0 ls []) from fun hw => K _ _ hw
  intro H locs hw
  refine lv_iload_n hx hb dX1_storedParcel_0 rfl (lv_at hl 1 rfl) ?_
  refine lv_iload_n hx hb dX1_storedParcel_1 rfl (lv_at hl 2 rfl) ?_
  refine ki hw Fr_hi (rS hx hb hml hts hown hK hw (c_X1_slotOf l x1 x2) (mkS 2 hts k_ml_RX1_61 k_st_yX1_slotOf k_in_RX1 k_co_yX1_slotOf hd_X1_slotOf ⟨Nat.le_of_ble_eq_true rfl, Nat.le_of_ble_eq_true rfl⟩) rfl hl.1 rfl (Nat.le_of_ble_eq_true rfl) dX1_storedParcel_2 ⟨Nat.le_of_ble_eq_true rfl, Nat.le_of_ble_eq_true rfl⟩) (fun H locs hw => ?_)
  refine lv_istore_n (lv' := [(3, .int (m_X1_slotOf x1 x2)), (0, .ref (A a0)), (1, .int x1), (2, .int x2)]) hx hb dX1_storedParcel_5 rfl hl (by decide) rfl (fun ls hl => ?_)
  refine lv_iload_n hx hb dX1_storedParcel_6 rfl (lv_at hl 0 rfl) ?_
  refine lv_if_lt (tgt := 19) hx hb dX1_storedParcel_7 (by decide) (fun hq1 => ?_) (fun hq1 => ?_)
  · have hm := (if_pos hq1).symm.trans hm
    refine lv_iconst (v := (-1)) hx hb dX1_storedParcel_19 (by decide) ?_
    refine lv_goto (tgt := 29) hx hb dX1_storedParcel_20 (by decide) ?_
    cases hm
    exact eI hx hb hr hlocks hK hw dX1_storedParcel_29
  · have hm := (if_neg hq1).symm.trans hm
    refine lv_iload_n hx hb dX1_storedParcel_10 rfl (lv_at hl 0 rfl) ?_
    refine lv_aload_n hx hb dX1_storedParcel_11 rfl (lv_at hl 1 rfl) ?_
    refine g1 hx hb hts hown hK hw h0 4 (by decide) (.ref (A (a0 + 1))) rfl k_fl_RX1_9 (fun _ h => h) dX1_storedParcel_12 ?_
    have hp2 := nd_s h0
    refine lI (v := 160) hx hb hK hw hp2 rfl dX1_storedParcel_15 ?_
    refine lv_icmp_lt (tgt := 23) hx hb dX1_storedParcel_16 (by decide) (fun hq3 => ?_) (fun hq3 => ?_)
    · have hm := (if_pos hq3).symm.trans hm
      refine lv_aload_n hx hb dX1_storedParcel_23 rfl (lv_at hl 1 rfl) ?_
      refine g1 hx hb hts hown hK hw h0 4 (by decide) (.ref (A (a0 + 1))) rfl k_fl_RX1_9 (fun _ h => h) dX1_storedParcel_24 ?_
      have hp4 := nd_s h0
      refine lv_iload_n hx hb dX1_storedParcel_27 rfl (lv_at hl 0 rfl) ?_
      obtain ⟨hi5, hm⟩ := ck_some hm
      refine gI hx hb hK hw hp4 hi5 dX1_storedParcel_28 ?_
      cases hm
      exact eI hx hb hr hlocks hK hw dX1_storedParcel_29
    · have hm := (if_neg hq3).symm.trans hm
      refine lv_iconst (v := (-1)) hx hb dX1_storedParcel_19 (by decide) ?_
      refine lv_goto (tgt := 29) hx hb dX1_storedParcel_20 (by decide) ?_
      cases hm
      exact eI hx hb hr hlocks hK hw dX1_storedParcel_29
set_option maxHeartbeats 4000000 in
set_option maxRecDepth 100000 in
theorem c_X1_holds (l : Launch) {D : va_G} {cy : Nat → ClassId} {A : Nat → Nat} {G : Nat → Bool} {M : Mem} {sz : Nat} {a0 : Nat} {x1 : Int32} {x2 : Int32} (h0 : TT G 1 a0)  {z : Int32} (hm : m_X1_holds a0 x1 x2 M = some z) : Met l yX1_holds (wm yX1_holds cX1_holds 3 (some .boolean)) ({ frames := 2, cells := 0, slots := 0, locals := 45 } : Room) (va_Pc [.ref (A a0), .int x1, .int x2] (Pr D cy A G M sz)) (va_Qi (fun (r' : Int32) (u : Mem) => r' = z ∧ u = M) (Po D cy A G (Fr A G sz)) (Fr A G sz))  0 0 (Fr A G sz) := by
  refine ofB (Qc := fun sz => va_Qi (fun (r' : Int32) (u : Mem) => r' = z ∧ u = M) (Po D cy A G (Fr A G sz)) (Fr A G sz)) (by decide +kernel) (Nat.le_of_ble_eq_true rfl) ?_
  intro p e s m below meth c hx hb hr hts hown hlocks hml hmn hK hw ls hl
  have hl : lv_has ls 3 [(0, .ref (A a0)), (1, .int x1), (2, .int x2)] := hl
  unfold m_X1_holds at hm
  revert hw
  suffices K : ∀ (H : Heap) (locs : List Loc), WD D cy (Fr A G s.heap.size) A s.heap G M H locs → W p l e (headSpec (wm yX1_holds cX1_holds 3 (some .boolean)) ({ frames := 2, cells := 0, slots := 0, locals := 45 } : Room)).room s m ([.ref (A a0), .int x1, .int x2] : List Value).toArray below meth c H locs 0 0 (MQ below (va_Qi (fun (r' : Int32) (u : Mem) => r' = z ∧ u = M) (Po D cy A G (Fr A G s.heap.size)) (Fr A G s.heap.size)) ([.ref (A a0), .int x1, .int x2] : List Value).toArray s 0 0 (Fr A G s.heap.size)) (F0 m 0 ls []) from fun hw => K _ _ hw
  intro H locs hw
  refine lv_aload_n hx hb dX1_holds_0 rfl (lv_at hl 0 rfl) ?_
  refine lv_iload_n hx hb dX1_holds_1 rfl (lv_at hl 1 rfl) ?_
  refine lv_iload_n hx hb dX1_holds_2 rfl (lv_at hl 2 rfl) ?_
  obtain ⟨z1, e2, hm⟩ := bd_some hm
  refine ki hw Fr_hi (rV hx hb hml hts hown hK hw (c_X1_storedParcel l h0 e2) h0 (by decide) rfl (mkV 2 hts k_ml_RX1_65 k_im_yX1_storedParcel k_se_yX1_storedParcel k_in_RX1 k_co_yX1_storedParcel hd_X1_storedParcel ⟨Nat.le_of_ble_eq_true rfl, Nat.le_of_ble_eq_true rfl⟩) rfl hl.1 rfl (Nat.le_of_ble_eq_true rfl) dX1_holds_3 ⟨Nat.le_of_ble_eq_true rfl, Nat.le_of_ble_eq_true rfl⟩) (fun H locs hw => ?_)
  refine lv_iconst (v := (-1)) hx hb dX1_holds_6 (by decide) ?_
  refine lv_icmp_eq (tgt := 14) hx hb dX1_holds_7 (by decide) (fun hq3 => ?_) (fun hq3 => ?_)
  · have hm := (if_pos hq3).symm.trans hm
    refine lv_iconst (v := 0) hx hb dX1_holds_14 (by decide) ?_
    cases hm
    exact eZ (show zb 0 by decide) hx hb hr hlocks hK hw dX1_holds_15
  · have hm := (if_neg hq3).symm.trans hm
    refine lv_iconst (v := 1) hx hb dX1_holds_10 (by decide) ?_
    refine lv_goto (tgt := 15) hx hb dX1_holds_11 (by decide) ?_
    cases hm
    exact eZ (show zb 1 by decide) hx hb hr hlocks hK hw dX1_holds_15
set_option maxHeartbeats 4000000 in
set_option maxRecDepth 100000 in
theorem c_X1_greatestConfirmed (l : Launch) {D : va_G} {cy : Nat → ClassId} {A : Nat → Nat} {G : Nat → Bool} {M : Mem} {sz : Nat} {a0 : Nat} {x1 : Int32} (h0 : TT G 1 a0)  {z : Int32} (hm : m_X1_greatestConfirmed a0 x1 M = some z) : Met l yX1_greatestConfirmed (wm yX1_greatestConfirmed cX1_greatestConfirmed 5 (some .int)) ({ frames := 2, cells := 0, slots := 0, locals := 45 } : Room) (va_Pc [.ref (A a0), .int x1] (Pr D cy A G M sz)) (va_Qi (fun (r' : Int32) (u : Mem) => r' = z ∧ u = M) (Po D cy A G (Fr A G sz)) (Fr A G sz))  0 0 (Fr A G sz) := by
  refine ofB (Qc := fun sz => va_Qi (fun (r' : Int32) (u : Mem) => r' = z ∧ u = M) (Po D cy A G (Fr A G sz)) (Fr A G sz)) (by decide +kernel) (Nat.le_of_ble_eq_true rfl) ?_
  intro p e s m below meth c hx hb hr hts hown hlocks hml hmn hK hw ls hl
  have hl : lv_has ls 5 [(0, .ref (A a0)), (1, .int x1)] := hl
  have J4 : ∀  (n : Nat) (v2 : Int32) (v3 : Int32), m_X1_greatestConfirmed_L4 a0 x1 M n v2 v3 = some z → ∀ (H : Heap) (locs : List Loc), WD D cy (Fr A G s.heap.size) A s.heap G M H locs → ∀ ls : Array Slot, lv_has ls 5 [(0, .ref (A a0)), (1, .int x1), (2, .int v2), (3, .int v3)] → W p l e (headSpec (wm yX1_greatestConfirmed cX1_greatestConfirmed 5 (some .int)) ({ frames := 2, cells := 0, slots := 0, locals := 45 } : Room)).room s m ([.ref (A a0), .int x1] : List Value).toArray below meth c H locs 0 0 (MQ below (va_Qi (fun (r' : Int32) (u : Mem) => r' = z ∧ u = M) (Po D cy A G (Fr A G s.heap.size)) (Fr A G s.heap.size)) ([.ref (A a0), .int x1] : List Value).toArray s 0 0 (Fr A G s.heap.size)) (F0 m 4 ls []) := by
    intro n
    induction n with
    | zero =>
      intro v2 v3 hm
      cases (show (none : Option Int32) = some z from hm)
    | succ n ih =>
      intro v2 v3 hm H locs hw ls hl
      have hm := (m_X1_greatestConfirmed_L4_s a0 x1 M n v2 v3).symm.trans hm
      refine lv_iload_n hx hb dX1_greatestConfirmed_4 rfl (lv_at hl 3 rfl) ?_
      refine lv_bipush (v := 40) hx hb dX1_greatestConfirmed_5 (by decide) ?_
      refine lv_icmp_ge (tgt := 40) hx hb dX1_greatestConfirmed_7 (by decide) (fun hq1 => ?_) (fun hq1 => ?_)
      · have hm := (if_pos hq1).symm.trans hm
        refine lv_iload_n hx hb dX1_greatestConfirmed_40 rfl (lv_at hl 2 rfl) ?_
        cases hm
        exact eI hx hb hr hlocks hK hw dX1_greatestConfirmed_41
      · have hm := (if_neg hq1).symm.trans hm
        refine lv_aload_n hx hb dX1_greatestConfirmed_10 rfl (lv_at hl 0 rfl) ?_
        refine lv_iload_n hx hb dX1_greatestConfirmed_11 rfl (lv_at hl 1 rfl) ?_
        refine lv_iload_n hx hb dX1_greatestConfirmed_12 rfl (lv_at hl 3 rfl) ?_
        obtain ⟨z2, e3, hm⟩ := bd_some hm
        refine ki hw Fr_hi (rV hx hb hml hts hown hK hw (c_X1_storedParcel l h0 e3) h0 (by decide) rfl (mkV 2 hts k_ml_RX1_65 k_im_yX1_storedParcel k_se_yX1_storedParcel k_in_RX1 k_co_yX1_storedParcel hd_X1_storedParcel ⟨Nat.le_of_ble_eq_true rfl, Nat.le_of_ble_eq_true rfl⟩) rfl hl.1 rfl (Nat.le_of_ble_eq_true rfl) dX1_greatestConfirmed_13 ⟨Nat.le_of_ble_eq_true rfl, Nat.le_of_ble_eq_true rfl⟩) (fun H locs hw => ?_)
        refine lv_istore (lv' := [(4, .int z2), (0, .ref (A a0)), (1, .int x1), (2, .int v2), (3, .int v3)]) hx hb dX1_greatestConfirmed_16 hl (by decide) rfl (fun ls hl => ?_)
        refine lv_iload hx hb dX1_greatestConfirmed_18 (lv_at hl 0 rfl) ?_
        refine lv_iconst (v := (-1)) hx hb dX1_greatestConfirmed_20 (by decide) ?_
        refine lv_icmp_eq (tgt := 34) hx hb dX1_greatestConfirmed_21 (by decide) (fun hq4 => ?_) (fun hq4 => ?_)
        · have hm := (if_pos hq4).symm.trans hm
          refine lv_iinc (v := (v3 + 1)) (lv' := [(3, .int (v3 + 1)), (4, .int z2), (0, .ref (A a0)), (1, .int x1), (2, .int v2)]) hx hb dX1_greatestConfirmed_34 hl (k := 4) rfl rfl (by decide) rfl (fun ls hl => ?_)
          refine lv_goto (tgt := 4) hx hb dX1_greatestConfirmed_37 (by decide) ?_
          exact ih v2 (v3 + 1) hm H locs hw ls (lv_sub hl [2, 3, 4, 0] rfl)
        · have hm := (if_neg hq4).symm.trans hm
          refine lv_iload_n hx hb dX1_greatestConfirmed_24 rfl (lv_at hl 3 rfl) ?_
          refine lv_iload hx hb dX1_greatestConfirmed_25 (lv_at hl 0 rfl) ?_
          refine ki hw Fr_hi (rS hx hb hml hts hown hK hw (c_X2_confirmedOf l z2) (mkS 1 hts k_ml_RX1_68 k_st_yX2_confirmedOf k_in_RX2 k_co_yX2_confirmedOf hd_X2_confirmedOf ⟨Nat.le_of_ble_eq_true rfl, Nat.le_of_ble_eq_true rfl⟩) rfl hl.1 rfl (Nat.le_of_ble_eq_true rfl) dX1_greatestConfirmed_27 ⟨Nat.le_of_ble_eq_true rfl, Nat.le_of_ble_eq_true rfl⟩) (fun H locs hw => ?_)
          refine mxI hx hb (hml.trans hl.1.symm) hts hown k_ml_RX1_71 (Nat.le_of_ble_eq_true rfl) (Nat.le_of_ble_eq_true rfl) (Nat.le_of_ble_eq_true rfl) (Nat.le_of_ble_eq_true rfl) dX1_greatestConfirmed_30 ?_
          refine lv_istore_n (lv' := [(2, .int (if v2 < (m_X2_confirmedOf z2) then (m_X2_confirmedOf z2) else v2)), (4, .int z2), (0, .ref (A a0)), (1, .int x1), (3, .int v3)]) hx hb dX1_greatestConfirmed_33 rfl hl (by decide) rfl (fun ls hl => ?_)
          refine lv_iinc (v := (v3 + 1)) (lv' := [(3, .int (v3 + 1)), (2, .int (if v2 < (m_X2_confirmedOf z2) then (m_X2_confirmedOf z2) else v2)), (4, .int z2), (0, .ref (A a0)), (1, .int x1)]) hx hb dX1_greatestConfirmed_34 hl (k := 4) rfl rfl (by decide) rfl (fun ls hl => ?_)
          refine lv_goto (tgt := 4) hx hb dX1_greatestConfirmed_37 (by decide) ?_
          exact ih (if v2 < (m_X2_confirmedOf z2) then (m_X2_confirmedOf z2) else v2) (v3 + 1) hm H locs hw ls (lv_sub hl [3, 4, 1, 0] rfl)
  unfold m_X1_greatestConfirmed at hm
  revert hw
  suffices K : ∀ (H : Heap) (locs : List Loc), WD D cy (Fr A G s.heap.size) A s.heap G M H locs → W p l e (headSpec (wm yX1_greatestConfirmed cX1_greatestConfirmed 5 (some .int)) ({ frames := 2, cells := 0, slots := 0, locals := 45 } : Room)).room s m ([.ref (A a0), .int x1] : List Value).toArray below meth c H locs 0 0 (MQ below (va_Qi (fun (r' : Int32) (u : Mem) => r' = z ∧ u = M) (Po D cy A G (Fr A G s.heap.size)) (Fr A G s.heap.size)) ([.ref (A a0), .int x1] : List Value).toArray s 0 0 (Fr A G s.heap.size)) (F0 m 0 ls []) from fun hw => K _ _ hw
  intro H locs hw
  refine lv_iconst (v := (-1)) hx hb dX1_greatestConfirmed_0 (by decide) ?_
  refine lv_istore_n (lv' := [(2, .int (-1)), (0, .ref (A a0)), (1, .int x1)]) hx hb dX1_greatestConfirmed_1 rfl hl (by decide) rfl (fun ls hl => ?_)
  refine lv_iconst (v := 0) hx hb dX1_greatestConfirmed_2 (by decide) ?_
  refine lv_istore_n (lv' := [(3, .int 0), (2, .int (-1)), (0, .ref (A a0)), (1, .int x1)]) hx hb dX1_greatestConfirmed_3 rfl hl (by decide) rfl (fun ls hl => ?_)
  exact J4 fuel (-1) 0 hm H locs hw ls (lv_sub hl [2, 3, 1, 0] rfl)
set_option maxHeartbeats 4000000 in
set_option maxRecDepth 100000 in
theorem c_X0_placeOf (l : Launch) {D : va_G} {cy : Nat → ClassId} {A : Nat → Nat} {G : Nat → Bool} {M : Mem} {sz : Nat}   (x0 : Int32) (x1 : Int32)  : Met l yX0_placeOf (wm yX0_placeOf cX0_placeOf 3 (some .int)) ({ frames := 0, cells := 0, slots := 0, locals := 0 } : Room) (va_Pc [.int x0, .int x1] (Pr D cy A G M sz)) (va_Qi (fun (r' : Int32) (u : Mem) => r' = (m_X0_placeOf x0 x1) ∧ u = M) (Po D cy A G (Fr A G sz)) (Fr A G sz))  0 0 (Fr A G sz) := by
  refine ofB (Qc := fun sz => va_Qi (fun (r' : Int32) (u : Mem) => r' = (m_X0_placeOf x0 x1) ∧ u = M) (Po D cy A G (Fr A G sz)) (Fr A G sz)) (by decide +kernel) (Nat.le_of_ble_eq_true rfl) ?_
  intro p e s m below meth c hx hb hr hts hown hlocks hml hmn hK hw ls hl
  have hl : lv_has ls 3 [(0, .int x0), (1, .int x1)] := hl
  generalize hm : m_X0_placeOf x0 x1 = z
  have J24 : ∀  (u0 : Int32), m_X0_placeOf_b24 x0 x1 u0 = z → ∀ (H : Heap) (locs : List Loc), WD D cy (Fr A G s.heap.size) A s.heap G M H locs → ∀ ls : Array Slot, lv_has ls 3 [(0, .int x0), (1, .int x1)] → W p l e (headSpec (wm yX0_placeOf cX0_placeOf 3 (some .int)) ({ frames := 0, cells := 0, slots := 0, locals := 0 } : Room)).room s m ([.int x0, .int x1] : List Value).toArray below meth c H locs 0 0 (MQ below (va_Qi (fun (r' : Int32) (u : Mem) => r' = z ∧ u = M) (Po D cy A G (Fr A G s.heap.size)) (Fr A G s.heap.size)) ([.int x0, .int x1] : List Value).toArray s 0 0 (Fr A G s.heap.size)) (F0 m 24 ls [.int u0]) := by
    intro u0 hm H locs hw ls hl
    unfold m_X0_placeOf_b24 at hm
    refine lv_istore_n (lv' := [(2, .int u0), (0, .int x0), (1, .int x1)]) hx hb dX0_placeOf_24 rfl hl (by decide) rfl (fun ls hl => ?_)
    refine lv_iload_n hx hb dX0_placeOf_25 rfl (lv_at hl 0 rfl) ?_
    refine lv_if_eq (tgt := 37) hx hb dX0_placeOf_26 (by decide) (fun hq2 => ?_) (fun hq2 => ?_)
    · have hm := (if_pos hq2).symm.trans hm
      refine lv_iconst (v := (-1)) hx hb dX0_placeOf_37 (by decide) ?_
      cases hm
      exact eI hx hb hr hlocks hK hw dX0_placeOf_38
    · have hm := (if_neg hq2).symm.trans hm
      refine lv_iload_n hx hb dX0_placeOf_29 rfl (lv_at hl 1 rfl) ?_
      refine lv_iconst (v := 5) hx hb dX0_placeOf_30 (by decide) ?_
      refine lv_imul hx hb dX0_placeOf_31 ?_
      refine lv_iload_n hx hb dX0_placeOf_32 rfl (lv_at hl 2 rfl) ?_
      refine lv_iadd hx hb dX0_placeOf_33 ?_
      refine lv_goto (tgt := 38) hx hb dX0_placeOf_34 (by decide) ?_
      cases hm
      exact eI hx hb hr hlocks hK hw dX0_placeOf_38
  unfold m_X0_placeOf at hm
  revert hw
  suffices K : ∀ (H : Heap) (locs : List Loc), WD D cy (Fr A G s.heap.size) A s.heap G M H locs → W p l e (headSpec (wm yX0_placeOf cX0_placeOf 3 (some .int)) ({ frames := 0, cells := 0, slots := 0, locals := 0 } : Room)).room s m ([.int x0, .int x1] : List Value).toArray below meth c H locs 0 0 (MQ below (va_Qi (fun (r' : Int32) (u : Mem) => r' = z ∧ u = M) (Po D cy A G (Fr A G s.heap.size)) (Fr A G s.heap.size)) ([.int x0, .int x1] : List Value).toArray s 0 0 (Fr A G s.heap.size)) (F0 m 0 ls []) from fun hw => K _ _ hw
  intro H locs hw
  refine lv_iload_n hx hb dX0_placeOf_0 rfl (lv_at hl 0 rfl) ?_
  refine lv_if_lt (tgt := 23) hx hb dX0_placeOf_1 (by decide) (fun hq1 => ?_) (fun hq1 => ?_)
  · have hm := (if_pos hq1).symm.trans hm
    refine lv_iconst (v := 0) hx hb dX0_placeOf_23 (by decide) ?_
    exact J24 0 hm H locs hw ls hl
  · have hm := (if_neg hq1).symm.trans hm
    refine lv_iload_n hx hb dX0_placeOf_4 rfl (lv_at hl 0 rfl) ?_
    refine lv_bipush (v := 41) hx hb dX0_placeOf_5 (by decide) ?_
    refine lv_icmp_ge (tgt := 23) hx hb dX0_placeOf_7 (by decide) (fun hq3 => ?_) (fun hq3 => ?_)
    · have hm := (if_pos hq3).symm.trans hm
      refine lv_iconst (v := 0) hx hb dX0_placeOf_23 (by decide) ?_
      exact J24 0 hm H locs hw ls hl
    · have hm := (if_neg hq3).symm.trans hm
      refine lv_iload_n hx hb dX0_placeOf_10 rfl (lv_at hl 1 rfl) ?_
      refine lv_if_lt (tgt := 23) hx hb dX0_placeOf_11 (by decide) (fun hq4 => ?_) (fun hq4 => ?_)
      · have hm := (if_pos hq4).symm.trans hm
        refine lv_iconst (v := 0) hx hb dX0_placeOf_23 (by decide) ?_
        exact J24 0 hm H locs hw ls hl
      · have hm := (if_neg hq4).symm.trans hm
        refine lv_iload_n hx hb dX0_placeOf_14 rfl (lv_at hl 1 rfl) ?_
        refine lv_iconst (v := 5) hx hb dX0_placeOf_15 (by decide) ?_
        refine lv_icmp_ge (tgt := 23) hx hb dX0_placeOf_16 (by decide) (fun hq5 => ?_) (fun hq5 => ?_)
        · have hm := (if_pos hq5).symm.trans hm
          refine lv_iconst (v := 0) hx hb dX0_placeOf_23 (by decide) ?_
          exact J24 0 hm H locs hw ls hl
        · have hm := (if_neg hq5).symm.trans hm
          refine lv_iconst (v := 1) hx hb dX0_placeOf_19 (by decide) ?_
          refine lv_goto (tgt := 24) hx hb dX0_placeOf_20 (by decide) ?_
          exact J24 1 hm H locs hw ls hl
set_option maxHeartbeats 4000000 in
set_option maxRecDepth 100000 in
theorem c_X0_setNode (l : Launch) {D : va_G} {cy : Nat → ClassId} {A : Nat → Nat} {G : Nat → Bool} {M : Mem} {sz : Nat} {a0 : Nat} {x1 : Int32} {x2 : Int32} {x3 : Int32} (h0 : TT G 0 a0)  {z : Mem} (hm : m_X0_setNode a0 x1 x2 x3 M = some z) : Met l yX0_setNode (wm yX0_setNode cX0_setNode 5 none) ({ frames := 1, cells := 0, slots := 0, locals := 22 } : Room) (va_Pc [.ref (A a0), .int x1, .int x2, .int x3] (Pr D cy A G M sz)) (va_Qv (fun (u : Mem) => u = z) (Po D cy A G (Fr A G sz)) (Fr A G sz))  0 0 (Fr A G sz) := by
  refine ofB (Qc := fun sz => va_Qv (fun (u : Mem) => u = z) (Po D cy A G (Fr A G sz)) (Fr A G sz)) (by decide +kernel) (Nat.le_of_ble_eq_true rfl) ?_
  intro p e s m below meth c hx hb hr hts hown hlocks hml hmn hK hw ls hl
  have hl : lv_has ls 5 [(0, .ref (A a0)), (1, .int x1), (2, .int x2), (3, .int x3)] := hl
  unfold m_X0_setNode at hm
  revert hw
  suffices K : ∀ (H : Heap) (locs : List Loc), WD D cy (Fr A G s.heap.size) A s.heap G M H locs → W p l e (headSpec (wm yX0_setNode cX0_setNode 5 none) ({ frames := 1, cells := 0, slots := 0, locals := 22 } : Room)).room s m ([.ref (A a0), .int x1, .int x2, .int x3] : List Value).toArray below meth c H locs 0 0 (MQ below (va_Qv (fun (u : Mem) => u = z) (Po D cy A G (Fr A G s.heap.size)) (Fr A G s.heap.size)) ([.ref (A a0), .int x1, .int x2, .int x3] : List Value).toArray s 0 0 (Fr A G s.heap.size)) (F0 m 0 ls []) from fun hw => K _ _ hw
  intro H locs hw
  refine lv_iload_n hx hb dX0_setNode_0 rfl (lv_at hl 1 rfl) ?_
  refine lv_iload_n hx hb dX0_setNode_1 rfl (lv_at hl 2 rfl) ?_
  refine ki hw Fr_hi (rS hx hb hml hts hown hK hw (c_X0_placeOf l x1 x2) (mkS 2 hts k_ml_RX0_89 k_st_yX0_placeOf k_in_RX0 k_co_yX0_placeOf hd_X0_placeOf ⟨Nat.le_of_ble_eq_true rfl, Nat.le_of_ble_eq_true rfl⟩) rfl hl.1 rfl (Nat.le_of_ble_eq_true rfl) dX0_setNode_2 ⟨Nat.le_of_ble_eq_true rfl, Nat.le_of_ble_eq_true rfl⟩) (fun H locs hw => ?_)
  refine lv_istore (lv' := [(4, .int (m_X0_placeOf x1 x2)), (0, .ref (A a0)), (1, .int x1), (2, .int x2), (3, .int x3)]) hx hb dX0_setNode_5 hl (by decide) rfl (fun ls hl => ?_)
  refine lv_iload hx hb dX0_setNode_7 (lv_at hl 0 rfl) ?_
  refine lv_if_lt (tgt := 30) hx hb dX0_setNode_9 (by decide) (fun hq1 => ?_) (fun hq1 => ?_)
  · have hm := (if_pos hq1).symm.trans hm
    cases hm
    exact eV hx hb hr hlocks hK hw dX0_setNode_30
  · have hm := (if_neg hq1).symm.trans hm
    refine lv_iload hx hb dX0_setNode_12 (lv_at hl 0 rfl) ?_
    refine lv_aload_n hx hb dX0_setNode_14 rfl (lv_at hl 1 rfl) ?_
    refine g0 hx hb hts hown hK hw h0 11 (by decide) (.ref (A (a0 + 4))) rfl k_fl_RX0_21 (fun _ h => h) dX0_setNode_15 ?_
    have hp2 := ld_m h0
    refine lI (v := 205) hx hb hK hw hp2 rfl dX0_setNode_18 ?_
    refine lv_icmp_ge (tgt := 30) hx hb dX0_setNode_19 (by decide) (fun hq3 => ?_) (fun hq3 => ?_)
    · have hm := (if_pos hq3).symm.trans hm
      cases hm
      exact eV hx hb hr hlocks hK hw dX0_setNode_30
    · have hm := (if_neg hq3).symm.trans hm
      refine lv_aload_n hx hb dX0_setNode_22 rfl (lv_at hl 1 rfl) ?_
      refine g0 hx hb hts hown hK hw h0 11 (by decide) (.ref (A (a0 + 4))) rfl k_fl_RX0_21 (fun _ h => h) dX0_setNode_23 ?_
      have hp4 := ld_m h0
      refine lv_iload hx hb dX0_setNode_26 (lv_at hl 0 rfl) ?_
      refine lv_iload_n hx hb dX0_setNode_28 rfl (lv_at hl 4 rfl) ?_
      obtain ⟨hi5, hm⟩ := ck_some hm
      refine pI hx hb hK hw hp4 hi5 dX0_setNode_29 (fun H locs hw => ?_)
      cases hm
      exact eV hx hb hr hlocks hK hw dX0_setNode_30
set_option maxHeartbeats 4000000 in
set_option maxRecDepth 100000 in
theorem c_X0_begin (l : Launch) {D : va_G} {cy : Nat → ClassId} {A : Nat → Nat} {G : Nat → Bool} {M : Mem} {sz : Nat} {a0 : Nat} {x1 : Int32} {x2 : Int32} {x3 : Int32} (h0 : TT G 0 a0)  {z : Mem} (hm : m_X0_begin a0 x1 x2 x3 M = some z) : Met l yX0_begin (wm yX0_begin cX0_begin 5 none) ({ frames := 2, cells := 0, slots := 0, locals := 46 } : Room) (va_Pc [.ref (A a0), .int x1, .int x2, .int x3] (Pr D cy A G M sz)) (va_Qv (fun (u : Mem) => u = z) (Po D cy A G (Fr A G sz)) (Fr A G sz))  0 0 (Fr A G sz) := by
  refine ofB (Qc := fun sz => va_Qv (fun (u : Mem) => u = z) (Po D cy A G (Fr A G sz)) (Fr A G sz)) (by decide +kernel) (Nat.le_of_ble_eq_true rfl) ?_
  intro p e s m below meth c hx hb hr hts hown hlocks hml hmn hK hw ls hl
  have hl : lv_has ls 5 [(0, .ref (A a0)), (1, .int x1), (2, .int x2), (3, .int x3)] := hl
  have J45 : ∀  (n : Nat) (v4 : Int32) (M : Mem), m_X0_begin_L45 a0 x1 x2 x3 n v4 M = some z → ∀ (H : Heap) (locs : List Loc), WD D cy (Fr A G s.heap.size) A s.heap G M H locs → ∀ ls : Array Slot, lv_has ls 5 [(0, .ref (A a0)), (1, .int x1), (4, .int v4)] → W p l e (headSpec (wm yX0_begin cX0_begin 5 none) ({ frames := 2, cells := 0, slots := 0, locals := 46 } : Room)).room s m ([.ref (A a0), .int x1, .int x2, .int x3] : List Value).toArray below meth c H locs 0 0 (MQ below (va_Qv (fun (u : Mem) => u = z) (Po D cy A G (Fr A G s.heap.size)) (Fr A G s.heap.size)) ([.ref (A a0), .int x1, .int x2, .int x3] : List Value).toArray s 0 0 (Fr A G s.heap.size)) (F0 m 45 ls []) := by
    intro n
    induction n with
    | zero =>
      intro v4 M hm
      cases (show (none : Option Mem) = some z from hm)
    | succ n ih =>
      intro v4 M hm H locs hw ls hl
      have hm := (m_X0_begin_L45_s a0 x1 x2 x3 n v4 M).symm.trans hm
      refine lv_iload hx hb dX0_begin_45 (lv_at hl 2 rfl) ?_
      refine lv_iload_n hx hb dX0_begin_47 rfl (lv_at hl 1 rfl) ?_
      refine lv_icmp_ge (tgt := 65) hx hb dX0_begin_48 (by decide) (fun hq3 => ?_) (fun hq3 => ?_)
      · have hm := (if_pos hq3).symm.trans hm
        cases hm
        exact eV hx hb hr hlocks hK hw dX0_begin_65
      · have hm := (if_neg hq3).symm.trans hm
        refine lv_aload_n hx hb dX0_begin_51 rfl (lv_at hl 0 rfl) ?_
        refine lv_iconst (v := 0) hx hb dX0_begin_52 (by decide) ?_
        refine lv_iload hx hb dX0_begin_53 (lv_at hl 2 rfl) ?_
        refine lv_iconst (v := (-1)) hx hb dX0_begin_55 (by decide) ?_
        obtain ⟨z4, e5, hm⟩ := bd_some hm
        refine kv hw Fr_hi (rV hx hb hml hts hown hK hw (c_X0_setNode l h0 e5) h0 (by decide) rfl (mkV 3 hts k_ml_RX0_49 k_im_yX0_setNode k_se_yX0_setNode k_in_RX0 k_co_yX0_setNode hd_X0_setNode ⟨Nat.le_of_ble_eq_true rfl, Nat.le_of_ble_eq_true rfl⟩) rfl hl.1 rfl (Nat.le_of_ble_eq_true rfl) dX0_begin_56 ⟨Nat.le_of_ble_eq_true rfl, Nat.le_of_ble_eq_true rfl⟩) (fun H locs hw => ?_)
        refine lv_iinc (v := (v4 + 1)) (lv' := [(4, .int (v4 + 1)), (0, .ref (A a0)), (1, .int x1)]) hx hb dX0_begin_59 hl (k := 2) rfl rfl (by decide) rfl (fun ls hl => ?_)
        refine lv_goto (tgt := 45) hx hb dX0_begin_62 (by decide) ?_
        exact ih (v4 + 1) z4 hm H locs hw ls (lv_sub hl [1, 2, 0] rfl)
  unfold m_X0_begin at hm
  revert hw
  suffices K : ∀ (H : Heap) (locs : List Loc), WD D cy (Fr A G s.heap.size) A s.heap G M H locs → W p l e (headSpec (wm yX0_begin cX0_begin 5 none) ({ frames := 2, cells := 0, slots := 0, locals := 46 } : Room)).room s m ([.ref (A a0), .int x1, .int x2, .int x3] : List Value).toArray below meth c H locs 0 0 (MQ below (va_Qv (fun (u : Mem) => u = z) (Po D cy A G (Fr A G s.heap.size)) (Fr A G s.heap.size)) ([.ref (A a0), .int x1, .int x2, .int x3] : List Value).toArray s 0 0 (Fr A G s.heap.size)) (F0 m 0 ls []) from fun hw => K _ _ hw
  intro H locs hw
  refine lv_aload_n hx hb dX0_begin_0 rfl (lv_at hl 0 rfl) ?_
  refine lv_iload_n hx hb dX0_begin_1 rfl (lv_at hl 1 rfl) ?_
  refine p0 hx hb hts hown hK hw h0 1 (by decide) k_fl_RX0_28 (fun _ h => h) rfl rfl rfl dX0_begin_2 (fun H locs hw => ?_)
  refine lv_aload_n hx hb dX0_begin_5 rfl (lv_at hl 0 rfl) ?_
  refine lv_iload_n hx hb dX0_begin_6 rfl (lv_at hl 2 rfl) ?_
  refine p0 hx hb hts hown hK hw h0 2 (by decide) k_fl_RX0_31 (fun _ h => h) rfl rfl rfl dX0_begin_7 (fun H locs hw => ?_)
  refine lv_aload_n hx hb dX0_begin_10 rfl (lv_at hl 0 rfl) ?_
  refine lv_iload_n hx hb dX0_begin_11 rfl (lv_at hl 3 rfl) ?_
  refine p0 hx hb hts hown hK hw h0 3 (by decide) k_fl_RX0_34 (fun _ h => h) rfl rfl rfl dX0_begin_12 (fun H locs hw => ?_)
  refine lv_aload_n hx hb dX0_begin_15 rfl (lv_at hl 0 rfl) ?_
  refine lv_iconst (v := 0) hx hb dX0_begin_16 (by decide) ?_
  refine p0 hx hb hts hown hK hw h0 4 (by decide) k_fl_RX0_37 (fun _ h => h) rfl rfl rfl dX0_begin_17 (fun H locs hw => ?_)
  refine lv_aload_n hx hb dX0_begin_20 rfl (lv_at hl 0 rfl) ?_
  refine lv_iconst (v := 0) hx hb dX0_begin_21 (by decide) ?_
  refine p0 hx hb hts hown hK hw h0 5 (by decide) k_fl_RX0_40 (fun _ h => h) rfl rfl rfl dX0_begin_22 (fun H locs hw => ?_)
  refine lv_aload_n hx hb dX0_begin_25 rfl (lv_at hl 0 rfl) ?_
  refine lv_iconst (v := (-1)) hx hb dX0_begin_26 (by decide) ?_
  refine p0 hx hb hts hown hK hw h0 6 (by decide) k_fl_RX0_43 (fun _ h => h) rfl rfl rfl dX0_begin_27 (fun H locs hw => ?_)
  refine lv_aload_n hx hb dX0_begin_30 rfl (lv_at hl 0 rfl) ?_
  refine lv_iconst (v := 1) hx hb dX0_begin_31 (by decide) ?_
  refine p0 hx hb hts hown hK hw h0 7 (by decide) k_fl_RX0_46 (fun _ h => h) rfl rfl rfl dX0_begin_32 (fun H locs hw => ?_)
  refine lv_aload_n hx hb dX0_begin_35 rfl (lv_at hl 0 rfl) ?_
  refine g0 hx hb hts hown hK hw h0 10 (by decide) (.ref (A (a0 + 3))) rfl k_fl_RX0_18 (fun _ h => h) dX0_begin_36 ?_
  have hp1 := ld_s h0
  refine lv_iconst (v := 0) hx hb dX0_begin_39 (by decide) ?_
  refine lv_iconst (v := 0) hx hb dX0_begin_40 (by decide) ?_
  obtain ⟨hi2, hm⟩ := ck_some hm
  refine pI hx hb hK hw hp1 hi2 dX0_begin_41 (fun H locs hw => ?_)
  refine lv_iconst (v := 0) hx hb dX0_begin_42 (by decide) ?_
  refine lv_istore (lv' := [(4, .int 0), (0, .ref (A a0)), (1, .int x1), (2, .int x2), (3, .int x3)]) hx hb dX0_begin_43 hl (by decide) rfl (fun ls hl => ?_)
  exact J45 fuel 0 (aI (a0 + 3) 0 0 (sF a0 7 1 (sF a0 6 (-1) (sF a0 5 0 (sF a0 4 0 (sF a0 3 x3 (sF a0 2 x2 (sF a0 1 x1 M)))))))) hm H locs hw ls (lv_sub hl [1, 2, 0] rfl)
set_option maxHeartbeats 4000000 in
set_option maxRecDepth 100000 in
theorem c_X0_copyFrom (l : Launch) {D : va_G} {cy : Nat → ClassId} {A : Nat → Nat} {G : Nat → Bool} {M : Mem} {sz : Nat} {a0 : Nat} {a1 : Nat} (h0 : TT G 0 a0) (h1 : TT G 0 a1)  {z : Mem} (hm : m_X0_copyFrom a0 a1 M = some z) : Met l yX0_copyFrom (wm yX0_copyFrom cX0_copyFrom 2 none) ({ frames := 2, cells := 0, slots := 0, locals := 61 } : Room) (va_Pc [.ref (A a0), .ref (A a1)] (Pr D cy A G M sz)) (va_Qv (fun (u : Mem) => u = z) (Po D cy A G (Fr A G sz)) (Fr A G sz))  0 0 (Fr A G sz) := by
  refine ofB (Qc := fun sz => va_Qv (fun (u : Mem) => u = z) (Po D cy A G (Fr A G sz)) (Fr A G sz)) (by decide +kernel) (Nat.le_of_ble_eq_true rfl) ?_
  intro p e s m below meth c hx hb hr hts hown hlocks hml hmn hK hw ls hl
  have hl : lv_has ls 2 [(0, .ref (A a0)), (1, .ref (A a1))] := hl
  unfold m_X0_copyFrom at hm
  revert hw
  suffices K : ∀ (H : Heap) (locs : List Loc), WD D cy (Fr A G s.heap.size) A s.heap G M H locs → W p l e (headSpec (wm yX0_copyFrom cX0_copyFrom 2 none) ({ frames := 2, cells := 0, slots := 0, locals := 61 } : Room)).room s m ([.ref (A a0), .ref (A a1)] : List Value).toArray below meth c H locs 0 0 (MQ below (va_Qv (fun (u : Mem) => u = z) (Po D cy A G (Fr A G s.heap.size)) (Fr A G s.heap.size)) ([.ref (A a0), .ref (A a1)] : List Value).toArray s 0 0 (Fr A G s.heap.size)) (F0 m 0 ls []) from fun hw => K _ _ hw
  intro H locs hw
  refine lv_aload_n hx hb dX0_copyFrom_0 rfl (lv_at hl 0 rfl) ?_
  refine lv_aload_n hx hb dX0_copyFrom_1 rfl (lv_at hl 1 rfl) ?_
  refine g0 hx hb hts hown hK hw h1 1 (by decide) (.int (gF M a1 1)) rfl k_fl_RX0_28 (fun _ h => h) dX0_copyFrom_2 ?_
  refine p0 hx hb hts hown hK hw h0 1 (by decide) k_fl_RX0_28 (fun _ h => h) rfl rfl rfl dX0_copyFrom_5 (fun H locs hw => ?_)
  refine lv_aload_n hx hb dX0_copyFrom_8 rfl (lv_at hl 0 rfl) ?_
  refine lv_aload_n hx hb dX0_copyFrom_9 rfl (lv_at hl 1 rfl) ?_
  refine g0 hx hb hts hown hK hw h1 2 (by decide) (.int (gF (sF a0 1 (gF M a1 1) M) a1 2)) rfl k_fl_RX0_31 (fun _ h => h) dX0_copyFrom_10 ?_
  refine p0 hx hb hts hown hK hw h0 2 (by decide) k_fl_RX0_31 (fun _ h => h) rfl rfl rfl dX0_copyFrom_13 (fun H locs hw => ?_)
  refine lv_aload_n hx hb dX0_copyFrom_16 rfl (lv_at hl 0 rfl) ?_
  refine lv_aload_n hx hb dX0_copyFrom_17 rfl (lv_at hl 1 rfl) ?_
  refine g0 hx hb hts hown hK hw h1 3 (by decide) (.int (gF (sF a0 2 (gF (sF a0 1 (gF M a1 1) M) a1 2) (sF a0 1 (gF M a1 1) M)) a1 3)) rfl k_fl_RX0_34 (fun _ h => h) dX0_copyFrom_18 ?_
  refine p0 hx hb hts hown hK hw h0 3 (by decide) k_fl_RX0_34 (fun _ h => h) rfl rfl rfl dX0_copyFrom_21 (fun H locs hw => ?_)
  refine lv_aload_n hx hb dX0_copyFrom_24 rfl (lv_at hl 0 rfl) ?_
  refine lv_aload_n hx hb dX0_copyFrom_25 rfl (lv_at hl 1 rfl) ?_
  refine g0 hx hb hts hown hK hw h1 4 (by decide) (.int (gF (sF a0 3 (gF (sF a0 2 (gF (sF a0 1 (gF M a1 1) M) a1 2) (sF a0 1 (gF M a1 1) M)) a1 3) (sF a0 2 (gF (sF a0 1 (gF M a1 1) M) a1 2) (sF a0 1 (gF M a1 1) M))) a1 4)) rfl k_fl_RX0_37 (fun _ h => h) dX0_copyFrom_26 ?_
  refine p0 hx hb hts hown hK hw h0 4 (by decide) k_fl_RX0_37 (fun _ h => h) rfl rfl rfl dX0_copyFrom_29 (fun H locs hw => ?_)
  refine lv_aload_n hx hb dX0_copyFrom_32 rfl (lv_at hl 0 rfl) ?_
  refine lv_aload_n hx hb dX0_copyFrom_33 rfl (lv_at hl 1 rfl) ?_
  refine g0 hx hb hts hown hK hw h1 5 (by decide) (.int (gF (sF a0 4 (gF (sF a0 3 (gF (sF a0 2 (gF (sF a0 1 (gF M a1 1) M) a1 2) (sF a0 1 (gF M a1 1) M)) a1 3) (sF a0 2 (gF (sF a0 1 (gF M a1 1) M) a1 2) (sF a0 1 (gF M a1 1) M))) a1 4) (sF a0 3 (gF (sF a0 2 (gF (sF a0 1 (gF M a1 1) M) a1 2) (sF a0 1 (gF M a1 1) M)) a1 3) (sF a0 2 (gF (sF a0 1 (gF M a1 1) M) a1 2) (sF a0 1 (gF M a1 1) M)))) a1 5)) rfl k_fl_RX0_40 (fun _ h => h) dX0_copyFrom_34 ?_
  refine p0 hx hb hts hown hK hw h0 5 (by decide) k_fl_RX0_40 (fun _ h => h) rfl rfl rfl dX0_copyFrom_37 (fun H locs hw => ?_)
  refine lv_aload_n hx hb dX0_copyFrom_40 rfl (lv_at hl 0 rfl) ?_
  refine lv_aload_n hx hb dX0_copyFrom_41 rfl (lv_at hl 1 rfl) ?_
  refine g0 hx hb hts hown hK hw h1 6 (by decide) (.int (gF (sF a0 5 (gF (sF a0 4 (gF (sF a0 3 (gF (sF a0 2 (gF (sF a0 1 (gF M a1 1) M) a1 2) (sF a0 1 (gF M a1 1) M)) a1 3) (sF a0 2 (gF (sF a0 1 (gF M a1 1) M) a1 2) (sF a0 1 (gF M a1 1) M))) a1 4) (sF a0 3 (gF (sF a0 2 (gF (sF a0 1 (gF M a1 1) M) a1 2) (sF a0 1 (gF M a1 1) M)) a1 3) (sF a0 2 (gF (sF a0 1 (gF M a1 1) M) a1 2) (sF a0 1 (gF M a1 1) M)))) a1 5) (sF a0 4 (gF (sF a0 3 (gF (sF a0 2 (gF (sF a0 1 (gF M a1 1) M) a1 2) (sF a0 1 (gF M a1 1) M)) a1 3) (sF a0 2 (gF (sF a0 1 (gF M a1 1) M) a1 2) (sF a0 1 (gF M a1 1) M))) a1 4) (sF a0 3 (gF (sF a0 2 (gF (sF a0 1 (gF M a1 1) M) a1 2) (sF a0 1 (gF M a1 1) M)) a1 3) (sF a0 2 (gF (sF a0 1 (gF M a1 1) M) a1 2) (sF a0 1 (gF M a1 1) M))))) a1 6)) rfl k_fl_RX0_43 (fun _ h => h) dX0_copyFrom_42 ?_
  refine p0 hx hb hts hown hK hw h0 6 (by decide) k_fl_RX0_43 (fun _ h => h) rfl rfl rfl dX0_copyFrom_45 (fun H locs hw => ?_)
  refine lv_aload_n hx hb dX0_copyFrom_48 rfl (lv_at hl 0 rfl) ?_
  refine lv_aload_n hx hb dX0_copyFrom_49 rfl (lv_at hl 1 rfl) ?_
  refine g0 hx hb hts hown hK hw h1 7 (by decide) (.int (gF (sF a0 6 (gF (sF a0 5 (gF (sF a0 4 (gF (sF a0 3 (gF (sF a0 2 (gF (sF a0 1 (gF M a1 1) M) a1 2) (sF a0 1 (gF M a1 1) M)) a1 3) (sF a0 2 (gF (sF a0 1 (gF M a1 1) M) a1 2) (sF a0 1 (gF M a1 1) M))) a1 4) (sF a0 3 (gF (sF a0 2 (gF (sF a0 1 (gF M a1 1) M) a1 2) (sF a0 1 (gF M a1 1) M)) a1 3) (sF a0 2 (gF (sF a0 1 (gF M a1 1) M) a1 2) (sF a0 1 (gF M a1 1) M)))) a1 5) (sF a0 4 (gF (sF a0 3 (gF (sF a0 2 (gF (sF a0 1 (gF M a1 1) M) a1 2) (sF a0 1 (gF M a1 1) M)) a1 3) (sF a0 2 (gF (sF a0 1 (gF M a1 1) M) a1 2) (sF a0 1 (gF M a1 1) M))) a1 4) (sF a0 3 (gF (sF a0 2 (gF (sF a0 1 (gF M a1 1) M) a1 2) (sF a0 1 (gF M a1 1) M)) a1 3) (sF a0 2 (gF (sF a0 1 (gF M a1 1) M) a1 2) (sF a0 1 (gF M a1 1) M))))) a1 6) (sF a0 5 (gF (sF a0 4 (gF (sF a0 3 (gF (sF a0 2 (gF (sF a0 1 (gF M a1 1) M) a1 2) (sF a0 1 (gF M a1 1) M)) a1 3) (sF a0 2 (gF (sF a0 1 (gF M a1 1) M) a1 2) (sF a0 1 (gF M a1 1) M))) a1 4) (sF a0 3 (gF (sF a0 2 (gF (sF a0 1 (gF M a1 1) M) a1 2) (sF a0 1 (gF M a1 1) M)) a1 3) (sF a0 2 (gF (sF a0 1 (gF M a1 1) M) a1 2) (sF a0 1 (gF M a1 1) M)))) a1 5) (sF a0 4 (gF (sF a0 3 (gF (sF a0 2 (gF (sF a0 1 (gF M a1 1) M) a1 2) (sF a0 1 (gF M a1 1) M)) a1 3) (sF a0 2 (gF (sF a0 1 (gF M a1 1) M) a1 2) (sF a0 1 (gF M a1 1) M))) a1 4) (sF a0 3 (gF (sF a0 2 (gF (sF a0 1 (gF M a1 1) M) a1 2) (sF a0 1 (gF M a1 1) M)) a1 3) (sF a0 2 (gF (sF a0 1 (gF M a1 1) M) a1 2) (sF a0 1 (gF M a1 1) M)))))) a1 7)) rfl k_fl_RX0_46 (fun _ h => h) dX0_copyFrom_50 ?_
  refine p0 hx hb hts hown hK hw h0 7 (by decide) k_fl_RX0_46 (fun _ h => h) rfl rfl rfl dX0_copyFrom_53 (fun H locs hw => ?_)
  refine lv_aload_n hx hb dX0_copyFrom_56 rfl (lv_at hl 1 rfl) ?_
  refine g0 hx hb hts hown hK hw h1 8 (by decide) (.ref (A (a1 + 1))) rfl k_fl_RX0_9 (fun _ h => h) dX0_copyFrom_57 ?_
  have hp1 := ld_p h1
  refine lv_aload_n hx hb dX0_copyFrom_60 rfl (lv_at hl 0 rfl) ?_
  refine g0 hx hb hts hown hK hw h0 8 (by decide) (.ref (A (a0 + 1))) rfl k_fl_RX0_9 (fun _ h => h) dX0_copyFrom_61 ?_
  have hp2 := ld_p h0
  obtain ⟨z3, e4, hm⟩ := bd_some hm
  refine kv hw Fr_hi (rSN hx hb hml hts hown hK hw (c_X5_copyRow l hp1 hp2 e4) (mkSN 2 hts hK.2.2.1 k_st_yX5_copyRow k_in_RX5 k_co_yX5_copyRow hd_X5_copyRow ⟨Nat.le_of_ble_eq_true rfl, Nat.le_of_ble_eq_true rfl⟩) rfl hl.1 rfl (Nat.le_of_ble_eq_true rfl) dX0_copyFrom_64 ⟨Nat.le_of_ble_eq_true rfl, Nat.le_of_ble_eq_true rfl⟩) (fun H locs hw => ?_)
  refine lv_aload_n hx hb dX0_copyFrom_67 rfl (lv_at hl 1 rfl) ?_
  refine g0 hx hb hts hown hK hw h1 9 (by decide) (.ref (A (a1 + 2))) rfl k_fl_RX0_15 (fun _ h => h) dX0_copyFrom_68 ?_
  have hp5 := ld_a h1
  refine lv_aload_n hx hb dX0_copyFrom_71 rfl (lv_at hl 0 rfl) ?_
  refine g0 hx hb hts hown hK hw h0 9 (by decide) (.ref (A (a0 + 2))) rfl k_fl_RX0_15 (fun _ h => h) dX0_copyFrom_72 ?_
  have hp6 := ld_a h0
  obtain ⟨z7, e8, hm⟩ := bd_some hm
  refine kv hw Fr_hi (rSN hx hb hml hts hown hK hw (c_X5_copyRow l hp5 hp6 e8) (mkSN 2 hts hK.2.2.1 k_st_yX5_copyRow k_in_RX5 k_co_yX5_copyRow hd_X5_copyRow ⟨Nat.le_of_ble_eq_true rfl, Nat.le_of_ble_eq_true rfl⟩) rfl hl.1 rfl (Nat.le_of_ble_eq_true rfl) dX0_copyFrom_75 ⟨Nat.le_of_ble_eq_true rfl, Nat.le_of_ble_eq_true rfl⟩) (fun H locs hw => ?_)
  refine lv_aload_n hx hb dX0_copyFrom_78 rfl (lv_at hl 1 rfl) ?_
  refine g0 hx hb hts hown hK hw h1 10 (by decide) (.ref (A (a1 + 3))) rfl k_fl_RX0_18 (fun _ h => h) dX0_copyFrom_79 ?_
  have hp9 := ld_s h1
  refine lv_aload_n hx hb dX0_copyFrom_82 rfl (lv_at hl 0 rfl) ?_
  refine g0 hx hb hts hown hK hw h0 10 (by decide) (.ref (A (a0 + 3))) rfl k_fl_RX0_18 (fun _ h => h) dX0_copyFrom_83 ?_
  have hp10 := ld_s h0
  obtain ⟨z11, e12, hm⟩ := bd_some hm
  refine kv hw Fr_hi (rSN hx hb hml hts hown hK hw (c_X5_copyRow l hp9 hp10 e12) (mkSN 2 hts hK.2.2.1 k_st_yX5_copyRow k_in_RX5 k_co_yX5_copyRow hd_X5_copyRow ⟨Nat.le_of_ble_eq_true rfl, Nat.le_of_ble_eq_true rfl⟩) rfl hl.1 rfl (Nat.le_of_ble_eq_true rfl) dX0_copyFrom_86 ⟨Nat.le_of_ble_eq_true rfl, Nat.le_of_ble_eq_true rfl⟩) (fun H locs hw => ?_)
  refine lv_aload_n hx hb dX0_copyFrom_89 rfl (lv_at hl 1 rfl) ?_
  refine g0 hx hb hts hown hK hw h1 11 (by decide) (.ref (A (a1 + 4))) rfl k_fl_RX0_21 (fun _ h => h) dX0_copyFrom_90 ?_
  have hp13 := ld_m h1
  refine lv_aload_n hx hb dX0_copyFrom_93 rfl (lv_at hl 0 rfl) ?_
  refine g0 hx hb hts hown hK hw h0 11 (by decide) (.ref (A (a0 + 4))) rfl k_fl_RX0_21 (fun _ h => h) dX0_copyFrom_94 ?_
  have hp14 := ld_m h0
  obtain ⟨z15, e16, hm⟩ := bd_some hm
  refine kv hw Fr_hi (rSN hx hb hml hts hown hK hw (c_X5_copyRow l hp13 hp14 e16) (mkSN 2 hts hK.2.2.1 k_st_yX5_copyRow k_in_RX5 k_co_yX5_copyRow hd_X5_copyRow ⟨Nat.le_of_ble_eq_true rfl, Nat.le_of_ble_eq_true rfl⟩) rfl hl.1 rfl (Nat.le_of_ble_eq_true rfl) dX0_copyFrom_97 ⟨Nat.le_of_ble_eq_true rfl, Nat.le_of_ble_eq_true rfl⟩) (fun H locs hw => ?_)
  cases hm
  exact eV hx hb hr hlocks hK hw dX0_copyFrom_100
set_option maxHeartbeats 4000000 in
set_option maxRecDepth 100000 in
theorem c_X0_addEntry (l : Launch) {D : va_G} {cy : Nat → ClassId} {A : Nat → Nat} {G : Nat → Bool} {M : Mem} {sz : Nat} {a0 : Nat} {x1 : Int32} (h0 : TT G 0 a0)  {z : (Int32 × Mem)} (hm : m_X0_addEntry a0 x1 M = some z) : Met l yX0_addEntry (wm yX0_addEntry cX0_addEntry 3 (some .int)) ({ frames := 0, cells := 0, slots := 0, locals := 0 } : Room) (va_Pc [.ref (A a0), .int x1] (Pr D cy A G M sz)) (va_Qi (fun (r' : Int32) (u : Mem) => r' = z.1 ∧ u = z.2) (Po D cy A G (Fr A G sz)) (Fr A G sz))  0 0 (Fr A G sz) := by
  refine ofB (Qc := fun sz => va_Qi (fun (r' : Int32) (u : Mem) => r' = z.1 ∧ u = z.2) (Po D cy A G (Fr A G sz)) (Fr A G sz)) (by decide +kernel) (Nat.le_of_ble_eq_true rfl) ?_
  intro p e s m below meth c hx hb hr hts hown hlocks hml hmn hK hw ls hl
  have hl : lv_has ls 3 [(0, .ref (A a0)), (1, .int x1)] := hl
  unfold m_X0_addEntry at hm
  revert hw
  suffices K : ∀ (H : Heap) (locs : List Loc), WD D cy (Fr A G s.heap.size) A s.heap G M H locs → W p l e (headSpec (wm yX0_addEntry cX0_addEntry 3 (some .int)) ({ frames := 0, cells := 0, slots := 0, locals := 0 } : Room)).room s m ([.ref (A a0), .int x1] : List Value).toArray below meth c H locs 0 0 (MQ below (va_Qi (fun (r' : Int32) (u : Mem) => r' = z.1 ∧ u = z.2) (Po D cy A G (Fr A G s.heap.size)) (Fr A G s.heap.size)) ([.ref (A a0), .int x1] : List Value).toArray s 0 0 (Fr A G s.heap.size)) (F0 m 0 ls []) from fun hw => K _ _ hw
  intro H locs hw
  refine lv_aload_n hx hb dX0_addEntry_0 rfl (lv_at hl 0 rfl) ?_
  refine g0 hx hb hts hown hK hw h0 5 (by decide) (.int (gF M a0 5)) rfl k_fl_RX0_40 (fun _ h => h) dX0_addEntry_1 ?_
  refine lv_istore_n (lv' := [(2, .int (gF M a0 5)), (0, .ref (A a0)), (1, .int x1)]) hx hb dX0_addEntry_4 rfl hl (by decide) rfl (fun ls hl => ?_)
  refine lv_iload_n hx hb dX0_addEntry_5 rfl (lv_at hl 0 rfl) ?_
  refine lv_if_lt (tgt := 51) hx hb dX0_addEntry_6 (by decide) (fun hq1 => ?_) (fun hq1 => ?_)
  · have hm := (if_pos hq1).symm.trans hm
    refine lv_iload_n hx hb dX0_addEntry_51 rfl (lv_at hl 0 rfl) ?_
    cases hm
    exact eI hx hb hr hlocks hK hw dX0_addEntry_52
  · have hm := (if_neg hq1).symm.trans hm
    refine lv_iload_n hx hb dX0_addEntry_9 rfl (lv_at hl 0 rfl) ?_
    refine lv_aload_n hx hb dX0_addEntry_10 rfl (lv_at hl 1 rfl) ?_
    refine g0 hx hb hts hown hK hw h0 8 (by decide) (.ref (A (a0 + 1))) rfl k_fl_RX0_9 (fun _ h => h) dX0_addEntry_11 ?_
    have hp2 := ld_p h0
    refine lI (v := 40) hx hb hK hw hp2 rfl dX0_addEntry_14 ?_
    refine lv_icmp_ge (tgt := 51) hx hb dX0_addEntry_15 (by decide) (fun hq3 => ?_) (fun hq3 => ?_)
    · have hm := (if_pos hq3).symm.trans hm
      refine lv_iload_n hx hb dX0_addEntry_51 rfl (lv_at hl 0 rfl) ?_
      cases hm
      exact eI hx hb hr hlocks hK hw dX0_addEntry_52
    · have hm := (if_neg hq3).symm.trans hm
      refine lv_iload_n hx hb dX0_addEntry_18 rfl (lv_at hl 0 rfl) ?_
      refine lv_aload_n hx hb dX0_addEntry_19 rfl (lv_at hl 1 rfl) ?_
      refine g0 hx hb hts hown hK hw h0 9 (by decide) (.ref (A (a0 + 2))) rfl k_fl_RX0_15 (fun _ h => h) dX0_addEntry_20 ?_
      have hp4 := ld_a h0
      refine lI (v := 40) hx hb hK hw hp4 rfl dX0_addEntry_23 ?_
      refine lv_icmp_ge (tgt := 51) hx hb dX0_addEntry_24 (by decide) (fun hq5 => ?_) (fun hq5 => ?_)
      · have hm := (if_pos hq5).symm.trans hm
        refine lv_iload_n hx hb dX0_addEntry_51 rfl (lv_at hl 0 rfl) ?_
        cases hm
        exact eI hx hb hr hlocks hK hw dX0_addEntry_52
      · have hm := (if_neg hq5).symm.trans hm
        refine lv_aload_n hx hb dX0_addEntry_27 rfl (lv_at hl 1 rfl) ?_
        refine g0 hx hb hts hown hK hw h0 8 (by decide) (.ref (A (a0 + 1))) rfl k_fl_RX0_9 (fun _ h => h) dX0_addEntry_28 ?_
        have hp6 := ld_p h0
        refine lv_iload_n hx hb dX0_addEntry_31 rfl (lv_at hl 0 rfl) ?_
        refine lv_iload_n hx hb dX0_addEntry_32 rfl (lv_at hl 2 rfl) ?_
        obtain ⟨hi7, hm⟩ := ck_some hm
        refine pI hx hb hK hw hp6 hi7 dX0_addEntry_33 (fun H locs hw => ?_)
        refine lv_aload_n hx hb dX0_addEntry_34 rfl (lv_at hl 1 rfl) ?_
        refine g0 hx hb hts hown hK hw h0 9 (by decide) (.ref (A (a0 + 2))) rfl k_fl_RX0_15 (fun _ h => h) dX0_addEntry_35 ?_
        have hp8 := ld_a h0
        refine lv_iload_n hx hb dX0_addEntry_38 rfl (lv_at hl 0 rfl) ?_
        refine lv_iconst (v := 0) hx hb dX0_addEntry_39 (by decide) ?_
        obtain ⟨hi9, hm⟩ := ck_some hm
        refine pI hx hb hK hw hp8 hi9 dX0_addEntry_40 (fun H locs hw => ?_)
        refine lv_aload_n hx hb dX0_addEntry_41 rfl (lv_at hl 1 rfl) ?_
        refine lv_dup hx hb dX0_addEntry_42 rfl ?_
        refine g0 hx hb hts hown hK hw h0 5 (by decide) (.int (gF (aI (a0 + 2) (gF M a0 5) 0 (aI (a0 + 1) (gF M a0 5) x1 M)) a0 5)) rfl k_fl_RX0_40 (fun _ h => h) dX0_addEntry_43 ?_
        refine lv_iconst (v := 1) hx hb dX0_addEntry_46 (by decide) ?_
        refine lv_iadd hx hb dX0_addEntry_47 ?_
        refine p0 hx hb hts hown hK hw h0 5 (by decide) k_fl_RX0_40 (fun _ h => h) rfl rfl rfl dX0_addEntry_48 (fun H locs hw => ?_)
        refine lv_iload_n hx hb dX0_addEntry_51 rfl (lv_at hl 0 rfl) ?_
        cases hm
        exact eI hx hb hr hlocks hK hw dX0_addEntry_52
set_option maxHeartbeats 4000000 in
set_option maxRecDepth 100000 in
theorem c_X0_payloadOf (l : Launch) {D : va_G} {cy : Nat → ClassId} {A : Nat → Nat} {G : Nat → Bool} {M : Mem} {sz : Nat} {a0 : Nat} {x1 : Int32} (h0 : TT G 0 a0)  {z : Int32} (hm : m_X0_payloadOf a0 x1 M = some z) : Met l yX0_payloadOf (wm yX0_payloadOf cX0_payloadOf 2 (some .int)) ({ frames := 0, cells := 0, slots := 0, locals := 0 } : Room) (va_Pc [.ref (A a0), .int x1] (Pr D cy A G M sz)) (va_Qi (fun (r' : Int32) (u : Mem) => r' = z ∧ u = M) (Po D cy A G (Fr A G sz)) (Fr A G sz))  0 0 (Fr A G sz) := by
  refine ofB (Qc := fun sz => va_Qi (fun (r' : Int32) (u : Mem) => r' = z ∧ u = M) (Po D cy A G (Fr A G sz)) (Fr A G sz)) (by decide +kernel) (Nat.le_of_ble_eq_true rfl) ?_
  intro p e s m below meth c hx hb hr hts hown hlocks hml hmn hK hw ls hl
  have hl : lv_has ls 2 [(0, .ref (A a0)), (1, .int x1)] := hl
  unfold m_X0_payloadOf at hm
  revert hw
  suffices K : ∀ (H : Heap) (locs : List Loc), WD D cy (Fr A G s.heap.size) A s.heap G M H locs → W p l e (headSpec (wm yX0_payloadOf cX0_payloadOf 2 (some .int)) ({ frames := 0, cells := 0, slots := 0, locals := 0 } : Room)).room s m ([.ref (A a0), .int x1] : List Value).toArray below meth c H locs 0 0 (MQ below (va_Qi (fun (r' : Int32) (u : Mem) => r' = z ∧ u = M) (Po D cy A G (Fr A G s.heap.size)) (Fr A G s.heap.size)) ([.ref (A a0), .int x1] : List Value).toArray s 0 0 (Fr A G s.heap.size)) (F0 m 0 ls []) from fun hw => K _ _ hw
  intro H locs hw
  refine lv_iload_n hx hb dX0_payloadOf_0 rfl (lv_at hl 1 rfl) ?_
  refine lv_if_lt (tgt := 13) hx hb dX0_payloadOf_1 (by decide) (fun hq1 => ?_) (fun hq1 => ?_)
  · have hm := (if_pos hq1).symm.trans hm
    refine lv_iconst (v := 0) hx hb dX0_payloadOf_13 (by decide) ?_
    refine lv_goto (tgt := 23) hx hb dX0_payloadOf_14 (by decide) ?_
    cases hm
    exact eI hx hb hr hlocks hK hw dX0_payloadOf_23
  · have hm := (if_neg hq1).symm.trans hm
    refine lv_iload_n hx hb dX0_payloadOf_4 rfl (lv_at hl 1 rfl) ?_
    refine lv_aload_n hx hb dX0_payloadOf_5 rfl (lv_at hl 0 rfl) ?_
    refine g0 hx hb hts hown hK hw h0 8 (by decide) (.ref (A (a0 + 1))) rfl k_fl_RX0_9 (fun _ h => h) dX0_payloadOf_6 ?_
    have hp2 := ld_p h0
    refine lI (v := 40) hx hb hK hw hp2 rfl dX0_payloadOf_9 ?_
    refine lv_icmp_lt (tgt := 17) hx hb dX0_payloadOf_10 (by decide) (fun hq3 => ?_) (fun hq3 => ?_)
    · have hm := (if_pos hq3).symm.trans hm
      refine lv_aload_n hx hb dX0_payloadOf_17 rfl (lv_at hl 0 rfl) ?_
      refine g0 hx hb hts hown hK hw h0 8 (by decide) (.ref (A (a0 + 1))) rfl k_fl_RX0_9 (fun _ h => h) dX0_payloadOf_18 ?_
      have hp4 := ld_p h0
      refine lv_iload_n hx hb dX0_payloadOf_21 rfl (lv_at hl 1 rfl) ?_
      obtain ⟨hi5, hm⟩ := ck_some hm
      refine gI hx hb hK hw hp4 hi5 dX0_payloadOf_22 ?_
      cases hm
      exact eI hx hb hr hlocks hK hw dX0_payloadOf_23
    · have hm := (if_neg hq3).symm.trans hm
      refine lv_iconst (v := 0) hx hb dX0_payloadOf_13 (by decide) ?_
      refine lv_goto (tgt := 23) hx hb dX0_payloadOf_14 (by decide) ?_
      cases hm
      exact eI hx hb hr hlocks hK hw dX0_payloadOf_23
set_option maxHeartbeats 4000000 in
set_option maxRecDepth 100000 in
theorem c_X0_countAcknowledgers (l : Launch) {D : va_G} {cy : Nat → ClassId} {A : Nat → Nat} {G : Nat → Bool} {M : Mem} {sz : Nat} {a0 : Nat} {x1 : Int32} (h0 : TT G 0 a0)  {z : Int32} (hm : m_X0_countAcknowledgers a0 x1 M = some z) : Met l yX0_countAcknowledgers (wm yX0_countAcknowledgers cX0_countAcknowledgers 2 (some .int)) ({ frames := 1, cells := 0, slots := 0, locals := 20 } : Room) (va_Pc [.ref (A a0), .int x1] (Pr D cy A G M sz)) (va_Qi (fun (r' : Int32) (u : Mem) => r' = z ∧ u = M) (Po D cy A G (Fr A G sz)) (Fr A G sz))  0 0 (Fr A G sz) := by
  refine ofB (Qc := fun sz => va_Qi (fun (r' : Int32) (u : Mem) => r' = z ∧ u = M) (Po D cy A G (Fr A G sz)) (Fr A G sz)) (by decide +kernel) (Nat.le_of_ble_eq_true rfl) ?_
  intro p e s m below meth c hx hb hr hts hown hlocks hml hmn hK hw ls hl
  have hl : lv_has ls 2 [(0, .ref (A a0)), (1, .int x1)] := hl
  unfold m_X0_countAcknowledgers at hm
  revert hw
  suffices K : ∀ (H : Heap) (locs : List Loc), WD D cy (Fr A G s.heap.size) A s.heap G M H locs → W p l e (headSpec (wm yX0_countAcknowledgers cX0_countAcknowledgers 2 (some .int)) ({ frames := 1, cells := 0, slots := 0, locals := 20 } : Room)).room s m ([.ref (A a0), .int x1] : List Value).toArray below meth c H locs 0 0 (MQ below (va_Qi (fun (r' : Int32) (u : Mem) => r' = z ∧ u = M) (Po D cy A G (Fr A G s.heap.size)) (Fr A G s.heap.size)) ([.ref (A a0), .int x1] : List Value).toArray s 0 0 (Fr A G s.heap.size)) (F0 m 0 ls []) from fun hw => K _ _ hw
  intro H locs hw
  refine lv_iload_n hx hb dX0_countAcknowledgers_0 rfl (lv_at hl 1 rfl) ?_
  refine lv_if_lt (tgt := 13) hx hb dX0_countAcknowledgers_1 (by decide) (fun hq1 => ?_) (fun hq1 => ?_)
  · have hm := (if_pos hq1).symm.trans hm
    refine lv_iconst (v := 0) hx hb dX0_countAcknowledgers_13 (by decide) ?_
    refine lv_goto (tgt := 26) hx hb dX0_countAcknowledgers_14 (by decide) ?_
    cases hm
    exact eI hx hb hr hlocks hK hw dX0_countAcknowledgers_26
  · have hm := (if_neg hq1).symm.trans hm
    refine lv_iload_n hx hb dX0_countAcknowledgers_4 rfl (lv_at hl 1 rfl) ?_
    refine lv_aload_n hx hb dX0_countAcknowledgers_5 rfl (lv_at hl 0 rfl) ?_
    refine g0 hx hb hts hown hK hw h0 9 (by decide) (.ref (A (a0 + 2))) rfl k_fl_RX0_15 (fun _ h => h) dX0_countAcknowledgers_6 ?_
    have hp2 := ld_a h0
    refine lI (v := 40) hx hb hK hw hp2 rfl dX0_countAcknowledgers_9 ?_
    refine lv_icmp_lt (tgt := 17) hx hb dX0_countAcknowledgers_10 (by decide) (fun hq3 => ?_) (fun hq3 => ?_)
    · have hm := (if_pos hq3).symm.trans hm
      refine lv_aload_n hx hb dX0_countAcknowledgers_17 rfl (lv_at hl 0 rfl) ?_
      refine g0 hx hb hts hown hK hw h0 9 (by decide) (.ref (A (a0 + 2))) rfl k_fl_RX0_15 (fun _ h => h) dX0_countAcknowledgers_18 ?_
      have hp4 := ld_a h0
      refine lv_iload_n hx hb dX0_countAcknowledgers_21 rfl (lv_at hl 1 rfl) ?_
      obtain ⟨hi5, hm⟩ := ck_some hm
      refine gI hx hb hK hw hp4 hi5 dX0_countAcknowledgers_22 ?_
      refine ki hw Fr_hi (rS hx hb hml hts hown hK hw (c_J6_bitCount_0f7a4 l (gR M (a0 + 2) (cl x1))) (mkS 1 hts k_ml_RX0_57 k_st_yJ6_bitCount_0f7a4 k_in_RJ6 k_co_yJ6_bitCount_0f7a4 hd_J6_bitCount_0f7a4 ⟨Nat.le_of_ble_eq_true rfl, Nat.le_of_ble_eq_true rfl⟩) rfl hl.1 rfl (Nat.le_of_ble_eq_true rfl) dX0_countAcknowledgers_23 ⟨Nat.le_of_ble_eq_true rfl, Nat.le_of_ble_eq_true rfl⟩) (fun H locs hw => ?_)
      cases hm
      exact eI hx hb hr hlocks hK hw dX0_countAcknowledgers_26
    · have hm := (if_neg hq3).symm.trans hm
      refine lv_iconst (v := 0) hx hb dX0_countAcknowledgers_13 (by decide) ?_
      refine lv_goto (tgt := 26) hx hb dX0_countAcknowledgers_14 (by decide) ?_
      cases hm
      exact eI hx hb hr hlocks hK hw dX0_countAcknowledgers_26
set_option maxHeartbeats 4000000 in
set_option maxRecDepth 100000 in
theorem c_X0_startOf (l : Launch) {D : va_G} {cy : Nat → ClassId} {A : Nat → Nat} {G : Nat → Bool} {M : Mem} {sz : Nat} {a0 : Nat} {x1 : Int32} (h0 : TT G 0 a0)  {z : Int32} (hm : m_X0_startOf a0 x1 M = some z) : Met l yX0_startOf (wm yX0_startOf cX0_startOf 2 (some .int)) ({ frames := 0, cells := 0, slots := 0, locals := 0 } : Room) (va_Pc [.ref (A a0), .int x1] (Pr D cy A G M sz)) (va_Qi (fun (r' : Int32) (u : Mem) => r' = z ∧ u = M) (Po D cy A G (Fr A G sz)) (Fr A G sz))  0 0 (Fr A G sz) := by
  refine ofB (Qc := fun sz => va_Qi (fun (r' : Int32) (u : Mem) => r' = z ∧ u = M) (Po D cy A G (Fr A G sz)) (Fr A G sz)) (by decide +kernel) (Nat.le_of_ble_eq_true rfl) ?_
  intro p e s m below meth c hx hb hr hts hown hlocks hml hmn hK hw ls hl
  have hl : lv_has ls 2 [(0, .ref (A a0)), (1, .int x1)] := hl
  unfold m_X0_startOf at hm
  revert hw
  suffices K : ∀ (H : Heap) (locs : List Loc), WD D cy (Fr A G s.heap.size) A s.heap G M H locs → W p l e (headSpec (wm yX0_startOf cX0_startOf 2 (some .int)) ({ frames := 0, cells := 0, slots := 0, locals := 0 } : Room)).room s m ([.ref (A a0), .int x1] : List Value).toArray below meth c H locs 0 0 (MQ below (va_Qi (fun (r' : Int32) (u : Mem) => r' = z ∧ u = M) (Po D cy A G (Fr A G s.heap.size)) (Fr A G s.heap.size)) ([.ref (A a0), .int x1] : List Value).toArray s 0 0 (Fr A G s.heap.size)) (F0 m 0 ls []) from fun hw => K _ _ hw
  intro H locs hw
  refine lv_iload_n hx hb dX0_startOf_0 rfl (lv_at hl 1 rfl) ?_
  refine lv_if_lt (tgt := 13) hx hb dX0_startOf_1 (by decide) (fun hq1 => ?_) (fun hq1 => ?_)
  · have hm := (if_pos hq1).symm.trans hm
    refine lv_iconst (v := 0) hx hb dX0_startOf_13 (by decide) ?_
    refine lv_goto (tgt := 23) hx hb dX0_startOf_14 (by decide) ?_
    cases hm
    exact eI hx hb hr hlocks hK hw dX0_startOf_23
  · have hm := (if_neg hq1).symm.trans hm
    refine lv_iload_n hx hb dX0_startOf_4 rfl (lv_at hl 1 rfl) ?_
    refine lv_aload_n hx hb dX0_startOf_5 rfl (lv_at hl 0 rfl) ?_
    refine g0 hx hb hts hown hK hw h0 10 (by decide) (.ref (A (a0 + 3))) rfl k_fl_RX0_18 (fun _ h => h) dX0_startOf_6 ?_
    have hp2 := ld_s h0
    refine lI (v := 41) hx hb hK hw hp2 rfl dX0_startOf_9 ?_
    refine lv_icmp_lt (tgt := 17) hx hb dX0_startOf_10 (by decide) (fun hq3 => ?_) (fun hq3 => ?_)
    · have hm := (if_pos hq3).symm.trans hm
      refine lv_aload_n hx hb dX0_startOf_17 rfl (lv_at hl 0 rfl) ?_
      refine g0 hx hb hts hown hK hw h0 10 (by decide) (.ref (A (a0 + 3))) rfl k_fl_RX0_18 (fun _ h => h) dX0_startOf_18 ?_
      have hp4 := ld_s h0
      refine lv_iload_n hx hb dX0_startOf_21 rfl (lv_at hl 1 rfl) ?_
      obtain ⟨hi5, hm⟩ := ck_some hm
      refine gI hx hb hK hw hp4 hi5 dX0_startOf_22 ?_
      cases hm
      exact eI hx hb hr hlocks hK hw dX0_startOf_23
    · have hm := (if_neg hq3).symm.trans hm
      refine lv_iconst (v := 0) hx hb dX0_startOf_13 (by decide) ?_
      refine lv_goto (tgt := 23) hx hb dX0_startOf_14 (by decide) ?_
      cases hm
      exact eI hx hb hr hlocks hK hw dX0_startOf_23
set_option maxHeartbeats 4000000 in
set_option maxRecDepth 100000 in
theorem c_X0_fragmentOf (l : Launch) {D : va_G} {cy : Nat → ClassId} {A : Nat → Nat} {G : Nat → Bool} {M : Mem} {sz : Nat} {a0 : Nat} {x1 : Int32} (h0 : TT G 0 a0)  {z : Int32} (hm : m_X0_fragmentOf a0 x1 M = some z) : Met l yX0_fragmentOf (wm yX0_fragmentOf cX0_fragmentOf 4 (some .int)) ({ frames := 1, cells := 0, slots := 0, locals := 21 } : Room) (va_Pc [.ref (A a0), .int x1] (Pr D cy A G M sz)) (va_Qi (fun (r' : Int32) (u : Mem) => r' = z ∧ u = M) (Po D cy A G (Fr A G sz)) (Fr A G sz))  0 0 (Fr A G sz) := by
  refine ofB (Qc := fun sz => va_Qi (fun (r' : Int32) (u : Mem) => r' = z ∧ u = M) (Po D cy A G (Fr A G sz)) (Fr A G sz)) (by decide +kernel) (Nat.le_of_ble_eq_true rfl) ?_
  intro p e s m below meth c hx hb hr hts hown hlocks hml hmn hK hw ls hl
  have hl : lv_has ls 4 [(0, .ref (A a0)), (1, .int x1)] := hl
  have J4 : ∀  (n : Nat) (v2 : Int32) (v3 : Int32), m_X0_fragmentOf_L4 a0 x1 M n v2 v3 = some z → ∀ (H : Heap) (locs : List Loc), WD D cy (Fr A G s.heap.size) A s.heap G M H locs → ∀ ls : Array Slot, lv_has ls 4 [(0, .ref (A a0)), (1, .int x1), (2, .int v2), (3, .int v3)] → W p l e (headSpec (wm yX0_fragmentOf cX0_fragmentOf 4 (some .int)) ({ frames := 1, cells := 0, slots := 0, locals := 21 } : Room)).room s m ([.ref (A a0), .int x1] : List Value).toArray below meth c H locs 0 0 (MQ below (va_Qi (fun (r' : Int32) (u : Mem) => r' = z ∧ u = M) (Po D cy A G (Fr A G s.heap.size)) (Fr A G s.heap.size)) ([.ref (A a0), .int x1] : List Value).toArray s 0 0 (Fr A G s.heap.size)) (F0 m 4 ls []) := by
    intro n
    induction n with
    | zero =>
      intro v2 v3 hm
      cases (show (none : Option Int32) = some z from hm)
    | succ n ih =>
      intro v2 v3 hm H locs hw ls hl
      have hm := (m_X0_fragmentOf_L4_s a0 x1 M n v2 v3).symm.trans hm
      refine lv_iload_n hx hb dX0_fragmentOf_4 rfl (lv_at hl 3 rfl) ?_
      refine lv_aload_n hx hb dX0_fragmentOf_5 rfl (lv_at hl 0 rfl) ?_
      refine g0 hx hb hts hown hK hw h0 7 (by decide) (.int (gF M a0 7)) rfl k_fl_RX0_46 (fun _ h => h) dX0_fragmentOf_6 ?_
      refine lv_icmp_ge (tgt := 29) hx hb dX0_fragmentOf_9 (by decide) (fun hq1 => ?_) (fun hq1 => ?_)
      · have hm := (if_pos hq1).symm.trans hm
        refine lv_iload_n hx hb dX0_fragmentOf_29 rfl (lv_at hl 2 rfl) ?_
        cases hm
        exact eI hx hb hr hlocks hK hw dX0_fragmentOf_30
      · have hm := (if_neg hq1).symm.trans hm
        refine lv_aload_n hx hb dX0_fragmentOf_12 rfl (lv_at hl 0 rfl) ?_
        refine lv_iload_n hx hb dX0_fragmentOf_13 rfl (lv_at hl 3 rfl) ?_
        obtain ⟨z2, e3, hm⟩ := bd_some hm
        refine ki hw Fr_hi (rV hx hb hml hts hown hK hw (c_X0_startOf l h0 e3) h0 (by decide) rfl (mkV 1 hts k_ml_RX0_86 k_im_yX0_startOf k_se_yX0_startOf k_in_RX0 k_co_yX0_startOf hd_X0_startOf ⟨Nat.le_of_ble_eq_true rfl, Nat.le_of_ble_eq_true rfl⟩) rfl hl.1 rfl (Nat.le_of_ble_eq_true rfl) dX0_fragmentOf_14 ⟨Nat.le_of_ble_eq_true rfl, Nat.le_of_ble_eq_true rfl⟩) (fun H locs hw => ?_)
        refine lv_iload_n hx hb dX0_fragmentOf_17 rfl (lv_at hl 1 rfl) ?_
        refine lv_icmp_gt (tgt := 23) hx hb dX0_fragmentOf_18 (by decide) (fun hq4 => ?_) (fun hq4 => ?_)
        · have hm := (if_pos hq4).symm.trans hm
          refine lv_iinc (v := (v3 + 1)) (lv' := [(3, .int (v3 + 1)), (0, .ref (A a0)), (1, .int x1), (2, .int v2)]) hx hb dX0_fragmentOf_23 hl (k := 3) rfl rfl (by decide) rfl (fun ls hl => ?_)
          refine lv_goto (tgt := 4) hx hb dX0_fragmentOf_26 (by decide) ?_
          exact ih v2 (v3 + 1) hm H locs hw ls (lv_sub hl [1, 2, 3, 0] rfl)
        · have hm := (if_neg hq4).symm.trans hm
          refine lv_iload_n hx hb dX0_fragmentOf_21 rfl (lv_at hl 3 rfl) ?_
          refine lv_istore_n (lv' := [(2, .int v3), (0, .ref (A a0)), (1, .int x1), (3, .int v3)]) hx hb dX0_fragmentOf_22 rfl hl (by decide) rfl (fun ls hl => ?_)
          refine lv_iinc (v := (v3 + 1)) (lv' := [(3, .int (v3 + 1)), (2, .int v3), (0, .ref (A a0)), (1, .int x1)]) hx hb dX0_fragmentOf_23 hl (k := 3) rfl rfl (by decide) rfl (fun ls hl => ?_)
          refine lv_goto (tgt := 4) hx hb dX0_fragmentOf_26 (by decide) ?_
          exact ih v3 (v3 + 1) hm H locs hw ls (lv_sub hl [2, 3, 1, 0] rfl)
  unfold m_X0_fragmentOf at hm
  revert hw
  suffices K : ∀ (H : Heap) (locs : List Loc), WD D cy (Fr A G s.heap.size) A s.heap G M H locs → W p l e (headSpec (wm yX0_fragmentOf cX0_fragmentOf 4 (some .int)) ({ frames := 1, cells := 0, slots := 0, locals := 21 } : Room)).room s m ([.ref (A a0), .int x1] : List Value).toArray below meth c H locs 0 0 (MQ below (va_Qi (fun (r' : Int32) (u : Mem) => r' = z ∧ u = M) (Po D cy A G (Fr A G s.heap.size)) (Fr A G s.heap.size)) ([.ref (A a0), .int x1] : List Value).toArray s 0 0 (Fr A G s.heap.size)) (F0 m 0 ls []) from fun hw => K _ _ hw
  intro H locs hw
  refine lv_iconst (v := 0) hx hb dX0_fragmentOf_0 (by decide) ?_
  refine lv_istore_n (lv' := [(2, .int 0), (0, .ref (A a0)), (1, .int x1)]) hx hb dX0_fragmentOf_1 rfl hl (by decide) rfl (fun ls hl => ?_)
  refine lv_iconst (v := 1) hx hb dX0_fragmentOf_2 (by decide) ?_
  refine lv_istore_n (lv' := [(3, .int 1), (2, .int 0), (0, .ref (A a0)), (1, .int x1)]) hx hb dX0_fragmentOf_3 rfl hl (by decide) rfl (fun ls hl => ?_)
  exact J4 fuel 0 1 hm H locs hw ls (lv_sub hl [2, 3, 1, 0] rfl)
set_option maxHeartbeats 4000000 in
set_option maxRecDepth 100000 in
theorem c_X0_nodeAt (l : Launch) {D : va_G} {cy : Nat → ClassId} {A : Nat → Nat} {G : Nat → Bool} {M : Mem} {sz : Nat} {a0 : Nat} {x1 : Int32} {x2 : Int32} (h0 : TT G 0 a0)  {z : Int32} (hm : m_X0_nodeAt a0 x1 x2 M = some z) : Met l yX0_nodeAt (wm yX0_nodeAt cX0_nodeAt 4 (some .int)) ({ frames := 1, cells := 0, slots := 0, locals := 22 } : Room) (va_Pc [.ref (A a0), .int x1, .int x2] (Pr D cy A G M sz)) (va_Qi (fun (r' : Int32) (u : Mem) => r' = z ∧ u = M) (Po D cy A G (Fr A G sz)) (Fr A G sz))  0 0 (Fr A G sz) := by
  refine ofB (Qc := fun sz => va_Qi (fun (r' : Int32) (u : Mem) => r' = z ∧ u = M) (Po D cy A G (Fr A G sz)) (Fr A G sz)) (by decide +kernel) (Nat.le_of_ble_eq_true rfl) ?_
  intro p e s m below meth c hx hb hr hts hown hlocks hml hmn hK hw ls hl
  have hl : lv_has ls 4 [(0, .ref (A a0)), (1, .int x1), (2, .int x2)] := hl
  unfold m_X0_nodeAt at hm
  revert hw
  suffices K : ∀ (H : Heap) (locs : List Loc), WD D cy (Fr A G s.heap.size) A s.heap G M H locs → W p l e (headSpec (wm yX0_nodeAt cX0_nodeAt 4 (some .int)) ({ frames := 1, cells := 0, slots := 0, locals := 22 } : Room)).room s m ([.ref (A a0), .int x1, .int x2] : List Value).toArray below meth c H locs 0 0 (MQ below (va_Qi (fun (r' : Int32) (u : Mem) => r' = z ∧ u = M) (Po D cy A G (Fr A G s.heap.size)) (Fr A G s.heap.size)) ([.ref (A a0), .int x1, .int x2] : List Value).toArray s 0 0 (Fr A G s.heap.size)) (F0 m 0 ls []) from fun hw => K _ _ hw
  intro H locs hw
  refine lv_iload_n hx hb dX0_nodeAt_0 rfl (lv_at hl 1 rfl) ?_
  refine lv_iload_n hx hb dX0_nodeAt_1 rfl (lv_at hl 2 rfl) ?_
  refine ki hw Fr_hi (rS hx hb hml hts hown hK hw (c_X0_placeOf l x1 x2) (mkS 2 hts k_ml_RX0_89 k_st_yX0_placeOf k_in_RX0 k_co_yX0_placeOf hd_X0_placeOf ⟨Nat.le_of_ble_eq_true rfl, Nat.le_of_ble_eq_true rfl⟩) rfl hl.1 rfl (Nat.le_of_ble_eq_true rfl) dX0_nodeAt_2 ⟨Nat.le_of_ble_eq_true rfl, Nat.le_of_ble_eq_true rfl⟩) (fun H locs hw => ?_)
  refine lv_istore_n (lv' := [(3, .int (m_X0_placeOf x1 x2)), (0, .ref (A a0)), (1, .int x1), (2, .int x2)]) hx hb dX0_nodeAt_5 rfl hl (by decide) rfl (fun ls hl => ?_)
  refine lv_iload_n hx hb dX0_nodeAt_6 rfl (lv_at hl 0 rfl) ?_
  refine lv_if_lt (tgt := 19) hx hb dX0_nodeAt_7 (by decide) (fun hq1 => ?_) (fun hq1 => ?_)
  · have hm := (if_pos hq1).symm.trans hm
    refine lv_iconst (v := (-1)) hx hb dX0_nodeAt_19 (by decide) ?_
    refine lv_goto (tgt := 29) hx hb dX0_nodeAt_20 (by decide) ?_
    cases hm
    exact eI hx hb hr hlocks hK hw dX0_nodeAt_29
  · have hm := (if_neg hq1).symm.trans hm
    refine lv_iload_n hx hb dX0_nodeAt_10 rfl (lv_at hl 0 rfl) ?_
    refine lv_aload_n hx hb dX0_nodeAt_11 rfl (lv_at hl 1 rfl) ?_
    refine g0 hx hb hts hown hK hw h0 11 (by decide) (.ref (A (a0 + 4))) rfl k_fl_RX0_21 (fun _ h => h) dX0_nodeAt_12 ?_
    have hp2 := ld_m h0
    refine lI (v := 205) hx hb hK hw hp2 rfl dX0_nodeAt_15 ?_
    refine lv_icmp_lt (tgt := 23) hx hb dX0_nodeAt_16 (by decide) (fun hq3 => ?_) (fun hq3 => ?_)
    · have hm := (if_pos hq3).symm.trans hm
      refine lv_aload_n hx hb dX0_nodeAt_23 rfl (lv_at hl 1 rfl) ?_
      refine g0 hx hb hts hown hK hw h0 11 (by decide) (.ref (A (a0 + 4))) rfl k_fl_RX0_21 (fun _ h => h) dX0_nodeAt_24 ?_
      have hp4 := ld_m h0
      refine lv_iload_n hx hb dX0_nodeAt_27 rfl (lv_at hl 0 rfl) ?_
      obtain ⟨hi5, hm⟩ := ck_some hm
      refine gI hx hb hK hw hp4 hi5 dX0_nodeAt_28 ?_
      cases hm
      exact eI hx hb hr hlocks hK hw dX0_nodeAt_29
    · have hm := (if_neg hq3).symm.trans hm
      refine lv_iconst (v := (-1)) hx hb dX0_nodeAt_19 (by decide) ?_
      refine lv_goto (tgt := 29) hx hb dX0_nodeAt_20 (by decide) ?_
      cases hm
      exact eI hx hb hr hlocks hK hw dX0_nodeAt_29
set_option maxHeartbeats 4000000 in
set_option maxRecDepth 100000 in
theorem c_X0_writeSetNode (l : Launch) {D : va_G} {cy : Nat → ClassId} {A : Nat → Nat} {G : Nat → Bool} {M : Mem} {sz : Nat} {a0 : Nat} {x1 : Int32} {x2 : Int32} {x3 : Int32} (h0 : TT G 0 a0)  {z : Int32} (hm : m_X0_writeSetNode a0 x1 x2 x3 M = some z) : Met l yX0_writeSetNode (wm yX0_writeSetNode cX0_writeSetNode 4 (some .int)) ({ frames := 2, cells := 0, slots := 0, locals := 45 } : Room) (va_Pc [.ref (A a0), .int x1, .int x2, .int x3] (Pr D cy A G M sz)) (va_Qi (fun (r' : Int32) (u : Mem) => r' = z ∧ u = M) (Po D cy A G (Fr A G sz)) (Fr A G sz))  0 0 (Fr A G sz) := by
  refine ofB (Qc := fun sz => va_Qi (fun (r' : Int32) (u : Mem) => r' = z ∧ u = M) (Po D cy A G (Fr A G sz)) (Fr A G sz)) (by decide +kernel) (Nat.le_of_ble_eq_true rfl) ?_
  intro p e s m below meth c hx hb hr hts hown hlocks hml hmn hK hw ls hl
  have hl : lv_has ls 4 [(0, .ref (A a0)), (1, .int x1), (2, .int x2), (3, .int x3)] := hl
  unfold m_X0_writeSetNode at hm
  revert hw
  suffices K : ∀ (H : Heap) (locs : List Loc), WD D cy (Fr A G s.heap.size) A s.heap G M H locs → W p l e (headSpec (wm yX0_writeSetNode cX0_writeSetNode 4 (some .int)) ({ frames := 2, cells := 0, slots := 0, locals := 45 } : Room)).room s m ([.ref (A a0), .int x1, .int x2, .int x3] : List Value).toArray below meth c H locs 0 0 (MQ below (va_Qi (fun (r' : Int32) (u : Mem) => r' = z ∧ u = M) (Po D cy A G (Fr A G s.heap.size)) (Fr A G s.heap.size)) ([.ref (A a0), .int x1, .int x2, .int x3] : List Value).toArray s 0 0 (Fr A G s.heap.size)) (F0 m 0 ls []) from fun hw => K _ _ hw
  intro H locs hw
  refine lv_aload_n hx hb dX0_writeSetNode_0 rfl (lv_at hl 0 rfl) ?_
  refine g0 hx hb hts hown hK hw h0 1 (by decide) (.int (gF M a0 1)) rfl k_fl_RX0_28 (fun _ h => h) dX0_writeSetNode_1 ?_
  refine lv_iconst (v := 1) hx hb dX0_writeSetNode_4 (by decide) ?_
  refine lv_icmp_lt (tgt := 16) hx hb dX0_writeSetNode_5 (by decide) (fun hq1 => ?_) (fun hq1 => ?_)
  · have hm := (if_pos hq1).symm.trans hm
    refine lv_iconst (v := (-1)) hx hb dX0_writeSetNode_16 (by decide) ?_
    cases hm
    exact eI hx hb hr hlocks hK hw dX0_writeSetNode_17
  · have hm := (if_neg hq1).symm.trans hm
    refine lv_iload_n hx hb dX0_writeSetNode_8 rfl (lv_at hl 2 rfl) ?_
    refine lv_if_lt (tgt := 16) hx hb dX0_writeSetNode_9 (by decide) (fun hq2 => ?_) (fun hq2 => ?_)
    · have hm := (if_pos hq2).symm.trans hm
      refine lv_iconst (v := (-1)) hx hb dX0_writeSetNode_16 (by decide) ?_
      cases hm
      exact eI hx hb hr hlocks hK hw dX0_writeSetNode_17
    · have hm := (if_neg hq2).symm.trans hm
      refine lv_iload_n hx hb dX0_writeSetNode_12 rfl (lv_at hl 3 rfl) ?_
      refine lv_if_ge (tgt := 18) hx hb dX0_writeSetNode_13 (by decide) (fun hq3 => ?_) (fun hq3 => ?_)
      · have hm := (if_pos hq3).symm.trans hm
        refine lv_aload_n hx hb dX0_writeSetNode_18 rfl (lv_at hl 0 rfl) ?_
        refine lv_iload_n hx hb dX0_writeSetNode_19 rfl (lv_at hl 1 rfl) ?_
        refine lv_iload_n hx hb dX0_writeSetNode_20 rfl (lv_at hl 2 rfl) ?_
        refine lv_iload_n hx hb dX0_writeSetNode_21 rfl (lv_at hl 3 rfl) ?_
        refine lv_iadd hx hb dX0_writeSetNode_22 ?_
        refine lv_aload_n hx hb dX0_writeSetNode_23 rfl (lv_at hl 0 rfl) ?_
        refine g0 hx hb hts hown hK hw h0 1 (by decide) (.int (gF M a0 1)) rfl k_fl_RX0_28 (fun _ h => h) dX0_writeSetNode_24 ?_
        obtain ⟨hz4, hm⟩ := ck_some hm
        refine lv_irem hx hb dX0_writeSetNode_27 hz4 ?_
        obtain ⟨z5, e6, hm⟩ := bd_some hm
        refine ki hw Fr_hi (rV hx hb hml hts hown hK hw (c_X0_nodeAt l h0 e6) h0 (by decide) rfl (mkV 2 hts k_ml_RX0_92 k_im_yX0_nodeAt k_se_yX0_nodeAt k_in_RX0 k_co_yX0_nodeAt hd_X0_nodeAt ⟨Nat.le_of_ble_eq_true rfl, Nat.le_of_ble_eq_true rfl⟩) rfl hl.1 rfl (Nat.le_of_ble_eq_true rfl) dX0_writeSetNode_28 ⟨Nat.le_of_ble_eq_true rfl, Nat.le_of_ble_eq_true rfl⟩) (fun H locs hw => ?_)
        cases hm
        exact eI hx hb hr hlocks hK hw dX0_writeSetNode_31
      · have hm := (if_neg hq3).symm.trans hm
        refine lv_iconst (v := (-1)) hx hb dX0_writeSetNode_16 (by decide) ?_
        cases hm
        exact eI hx hb hr hlocks hK hw dX0_writeSetNode_17
set_option maxHeartbeats 4000000 in
set_option maxRecDepth 100000 in
theorem c_X0_maskOf (l : Launch) {D : va_G} {cy : Nat → ClassId} {A : Nat → Nat} {G : Nat → Bool} {M : Mem} {sz : Nat}   (x0 : Int32)  : Met l yX0_maskOf (wm yX0_maskOf cX0_maskOf 1 (some .int)) ({ frames := 0, cells := 0, slots := 0, locals := 0 } : Room) (va_Pc [.int x0] (Pr D cy A G M sz)) (va_Qi (fun (r' : Int32) (u : Mem) => r' = (m_X0_maskOf x0) ∧ u = M) (Po D cy A G (Fr A G sz)) (Fr A G sz))  0 0 (Fr A G sz) := by
  refine ofB (Qc := fun sz => va_Qi (fun (r' : Int32) (u : Mem) => r' = (m_X0_maskOf x0) ∧ u = M) (Po D cy A G (Fr A G sz)) (Fr A G sz)) (by decide +kernel) (Nat.le_of_ble_eq_true rfl) ?_
  intro p e s m below meth c hx hb hr hts hown hlocks hml hmn hK hw ls hl
  have hl : lv_has ls 1 [(0, .int x0)] := hl
  generalize hm : m_X0_maskOf x0 = z
  unfold m_X0_maskOf at hm
  revert hw
  suffices K : ∀ (H : Heap) (locs : List Loc), WD D cy (Fr A G s.heap.size) A s.heap G M H locs → W p l e (headSpec (wm yX0_maskOf cX0_maskOf 1 (some .int)) ({ frames := 0, cells := 0, slots := 0, locals := 0 } : Room)).room s m ([.int x0] : List Value).toArray below meth c H locs 0 0 (MQ below (va_Qi (fun (r' : Int32) (u : Mem) => r' = z ∧ u = M) (Po D cy A G (Fr A G s.heap.size)) (Fr A G s.heap.size)) ([.int x0] : List Value).toArray s 0 0 (Fr A G s.heap.size)) (F0 m 0 ls []) from fun hw => K _ _ hw
  intro H locs hw
  refine lv_iload_n hx hb dX0_maskOf_0 rfl (lv_at hl 0 rfl) ?_
  refine lv_if_ge (tgt := 8) hx hb dX0_maskOf_1 (by decide) (fun hq1 => ?_) (fun hq1 => ?_)
  · have hm := (if_pos hq1).symm.trans hm
    refine lv_iconst (v := 1) hx hb dX0_maskOf_8 (by decide) ?_
    refine lv_iload_n hx hb dX0_maskOf_9 rfl (lv_at hl 0 rfl) ?_
    refine lv_ishl hx hb dX0_maskOf_10 ?_
    cases hm
    exact eI hx hb hr hlocks hK hw dX0_maskOf_11
  · have hm := (if_neg hq1).symm.trans hm
    refine lv_iconst (v := 0) hx hb dX0_maskOf_4 (by decide) ?_
    refine lv_goto (tgt := 11) hx hb dX0_maskOf_5 (by decide) ?_
    cases hm
    exact eI hx hb hr hlocks hK hw dX0_maskOf_11
set_option maxHeartbeats 4000000 in
set_option maxRecDepth 100000 in
theorem c_X0_writeSetMask (l : Launch) {D : va_G} {cy : Nat → ClassId} {A : Nat → Nat} {G : Nat → Bool} {M : Mem} {sz : Nat} {a0 : Nat} {x1 : Int32} {x2 : Int32} (h0 : TT G 0 a0)  {z : Int32} (hm : m_X0_writeSetMask a0 x1 x2 M = some z) : Met l yX0_writeSetMask (wm yX0_writeSetMask cX0_writeSetMask 5 (some .int)) ({ frames := 3, cells := 0, slots := 0, locals := 68 } : Room) (va_Pc [.ref (A a0), .int x1, .int x2] (Pr D cy A G M sz)) (va_Qi (fun (r' : Int32) (u : Mem) => r' = z ∧ u = M) (Po D cy A G (Fr A G sz)) (Fr A G sz))  0 0 (Fr A G sz) := by
  refine ofB (Qc := fun sz => va_Qi (fun (r' : Int32) (u : Mem) => r' = z ∧ u = M) (Po D cy A G (Fr A G sz)) (Fr A G sz)) (by decide +kernel) (Nat.le_of_ble_eq_true rfl) ?_
  intro p e s m below meth c hx hb hr hts hown hlocks hml hmn hK hw ls hl
  have hl : lv_has ls 5 [(0, .ref (A a0)), (1, .int x1), (2, .int x2)] := hl
  have J5 : ∀  (n : Nat) (v3 : Int32) (v4 : Int32), m_X0_writeSetMask_L5 a0 x1 x2 M n v3 v4 = some z → ∀ (H : Heap) (locs : List Loc), WD D cy (Fr A G s.heap.size) A s.heap G M H locs → ∀ ls : Array Slot, lv_has ls 5 [(0, .ref (A a0)), (1, .int x1), (2, .int x2), (3, .int v3), (4, .int v4)] → W p l e (headSpec (wm yX0_writeSetMask cX0_writeSetMask 5 (some .int)) ({ frames := 3, cells := 0, slots := 0, locals := 68 } : Room)).room s m ([.ref (A a0), .int x1, .int x2] : List Value).toArray below meth c H locs 0 0 (MQ below (va_Qi (fun (r' : Int32) (u : Mem) => r' = z ∧ u = M) (Po D cy A G (Fr A G s.heap.size)) (Fr A G s.heap.size)) ([.ref (A a0), .int x1, .int x2] : List Value).toArray s 0 0 (Fr A G s.heap.size)) (F0 m 5 ls []) := by
    intro n
    induction n with
    | zero =>
      intro v3 v4 hm
      cases (show (none : Option Int32) = some z from hm)
    | succ n ih =>
      intro v3 v4 hm H locs hw ls hl
      have hm := (m_X0_writeSetMask_L5_s a0 x1 x2 M n v3 v4).symm.trans hm
      refine lv_iload hx hb dX0_writeSetMask_5 (lv_at hl 4 rfl) ?_
      refine lv_aload_n hx hb dX0_writeSetMask_7 rfl (lv_at hl 0 rfl) ?_
      refine g0 hx hb hts hown hK hw h0 2 (by decide) (.int (gF M a0 2)) rfl k_fl_RX0_31 (fun _ h => h) dX0_writeSetMask_8 ?_
      refine lv_icmp_ge (tgt := 34) hx hb dX0_writeSetMask_11 (by decide) (fun hq1 => ?_) (fun hq1 => ?_)
      · have hm := (if_pos hq1).symm.trans hm
        refine lv_iload_n hx hb dX0_writeSetMask_34 rfl (lv_at hl 3 rfl) ?_
        cases hm
        exact eI hx hb hr hlocks hK hw dX0_writeSetMask_35
      · have hm := (if_neg hq1).symm.trans hm
        refine lv_iload_n hx hb dX0_writeSetMask_14 rfl (lv_at hl 3 rfl) ?_
        refine lv_aload_n hx hb dX0_writeSetMask_15 rfl (lv_at hl 0 rfl) ?_
        refine lv_iload_n hx hb dX0_writeSetMask_16 rfl (lv_at hl 1 rfl) ?_
        refine lv_iload_n hx hb dX0_writeSetMask_17 rfl (lv_at hl 2 rfl) ?_
        refine lv_iload hx hb dX0_writeSetMask_18 (lv_at hl 4 rfl) ?_
        obtain ⟨z2, e3, hm⟩ := bd_some hm
        refine ki hw Fr_hi (rV hx hb hml hts hown hK hw (c_X0_writeSetNode l h0 e3) h0 (by decide) rfl (mkV 3 hts k_ml_RX0_98 k_im_yX0_writeSetNode k_se_yX0_writeSetNode k_in_RX0 k_co_yX0_writeSetNode hd_X0_writeSetNode ⟨Nat.le_of_ble_eq_true rfl, Nat.le_of_ble_eq_true rfl⟩) rfl hl.1 rfl (Nat.le_of_ble_eq_true rfl) dX0_writeSetMask_20 ⟨Nat.le_of_ble_eq_true rfl, Nat.le_of_ble_eq_true rfl⟩) (fun H locs hw => ?_)
        refine ki hw Fr_hi (rS hx hb hml hts hown hK hw (c_X0_maskOf l z2) (mkS 1 hts k_ml_RX0_95 k_st_yX0_maskOf k_in_RX0 k_co_yX0_maskOf hd_X0_maskOf ⟨Nat.le_of_ble_eq_true rfl, Nat.le_of_ble_eq_true rfl⟩) rfl hl.1 rfl (Nat.le_of_ble_eq_true rfl) dX0_writeSetMask_23 ⟨Nat.le_of_ble_eq_true rfl, Nat.le_of_ble_eq_true rfl⟩) (fun H locs hw => ?_)
        refine lv_ior hx hb dX0_writeSetMask_26 ?_
        refine lv_istore_n (lv' := [(3, .int (v3 ||| (m_X0_maskOf z2))), (0, .ref (A a0)), (1, .int x1), (2, .int x2), (4, .int v4)]) hx hb dX0_writeSetMask_27 rfl hl (by decide) rfl (fun ls hl => ?_)
        refine lv_iinc (v := (v4 + 1)) (lv' := [(4, .int (v4 + 1)), (3, .int (v3 ||| (m_X0_maskOf z2))), (0, .ref (A a0)), (1, .int x1), (2, .int x2)]) hx hb dX0_writeSetMask_28 hl (k := 4) rfl rfl (by decide) rfl (fun ls hl => ?_)
        refine lv_goto (tgt := 5) hx hb dX0_writeSetMask_31 (by decide) ?_
        exact ih (v3 ||| (m_X0_maskOf z2)) (v4 + 1) hm H locs hw ls (lv_sub hl [2, 3, 4, 1, 0] rfl)
  unfold m_X0_writeSetMask at hm
  revert hw
  suffices K : ∀ (H : Heap) (locs : List Loc), WD D cy (Fr A G s.heap.size) A s.heap G M H locs → W p l e (headSpec (wm yX0_writeSetMask cX0_writeSetMask 5 (some .int)) ({ frames := 3, cells := 0, slots := 0, locals := 68 } : Room)).room s m ([.ref (A a0), .int x1, .int x2] : List Value).toArray below meth c H locs 0 0 (MQ below (va_Qi (fun (r' : Int32) (u : Mem) => r' = z ∧ u = M) (Po D cy A G (Fr A G s.heap.size)) (Fr A G s.heap.size)) ([.ref (A a0), .int x1, .int x2] : List Value).toArray s 0 0 (Fr A G s.heap.size)) (F0 m 0 ls []) from fun hw => K _ _ hw
  intro H locs hw
  refine lv_iconst (v := 0) hx hb dX0_writeSetMask_0 (by decide) ?_
  refine lv_istore_n (lv' := [(3, .int 0), (0, .ref (A a0)), (1, .int x1), (2, .int x2)]) hx hb dX0_writeSetMask_1 rfl hl (by decide) rfl (fun ls hl => ?_)
  refine lv_iconst (v := 0) hx hb dX0_writeSetMask_2 (by decide) ?_
  refine lv_istore (lv' := [(4, .int 0), (3, .int 0), (0, .ref (A a0)), (1, .int x1), (2, .int x2)]) hx hb dX0_writeSetMask_3 hl (by decide) rfl (fun ls hl => ?_)
  exact J5 fuel 0 0 hm H locs hw ls (lv_sub hl [2, 3, 4, 1, 0] rfl)
set_option maxHeartbeats 4000000 in
set_option maxRecDepth 100000 in
theorem c_X0_acknowledge (l : Launch) {D : va_G} {cy : Nat → ClassId} {A : Nat → Nat} {G : Nat → Bool} {M : Mem} {sz : Nat} {a0 : Nat} {x1 : Int32} {x2 : Int32} (h0 : TT G 0 a0)  {z : Mem} (hm : m_X0_acknowledge a0 x1 x2 M = some z) : Met l yX0_acknowledge (wm yX0_acknowledge cX0_acknowledge 3 none) ({ frames := 4, cells := 0, slots := 0, locals := 92 } : Room) (va_Pc [.ref (A a0), .int x1, .int x2] (Pr D cy A G M sz)) (va_Qv (fun (u : Mem) => u = z) (Po D cy A G (Fr A G sz)) (Fr A G sz))  0 0 (Fr A G sz) := by
  refine ofB (Qc := fun sz => va_Qv (fun (u : Mem) => u = z) (Po D cy A G (Fr A G sz)) (Fr A G sz)) (by decide +kernel) (Nat.le_of_ble_eq_true rfl) ?_
  intro p e s m below meth c hx hb hr hts hown hlocks hml hmn hK hw ls hl
  have hl : lv_has ls 3 [(0, .ref (A a0)), (1, .int x1), (2, .int x2)] := hl
  unfold m_X0_acknowledge at hm
  revert hw
  suffices K : ∀ (H : Heap) (locs : List Loc), WD D cy (Fr A G s.heap.size) A s.heap G M H locs → W p l e (headSpec (wm yX0_acknowledge cX0_acknowledge 3 none) ({ frames := 4, cells := 0, slots := 0, locals := 92 } : Room)).room s m ([.ref (A a0), .int x1, .int x2] : List Value).toArray below meth c H locs 0 0 (MQ below (va_Qv (fun (u : Mem) => u = z) (Po D cy A G (Fr A G s.heap.size)) (Fr A G s.heap.size)) ([.ref (A a0), .int x1, .int x2] : List Value).toArray s 0 0 (Fr A G s.heap.size)) (F0 m 0 ls []) from fun hw => K _ _ hw
  intro H locs hw
  refine lv_aload_n hx hb dX0_acknowledge_0 rfl (lv_at hl 0 rfl) ?_
  refine g0 hx hb hts hown hK hw h0 4 (by decide) (.int (gF M a0 4)) rfl k_fl_RX0_37 (fun _ h => h) dX0_acknowledge_1 ?_
  refine lv_if_ne (tgt := 20) hx hb dX0_acknowledge_4 (by decide) (fun hq1 => ?_) (fun hq1 => ?_)
  · have hm := (if_neg hq1).symm.trans hm
    cases hm
    exact eV hx hb hr hlocks hK hw dX0_acknowledge_20
  · have hm := (if_pos hq1).symm.trans hm
    refine lv_iload_n hx hb dX0_acknowledge_7 rfl (lv_at hl 1 rfl) ?_
    refine lv_if_lt (tgt := 20) hx hb dX0_acknowledge_8 (by decide) (fun hq2 => ?_) (fun hq2 => ?_)
    · have hm := (if_pos hq2).symm.trans hm
      cases hm
      exact eV hx hb hr hlocks hK hw dX0_acknowledge_20
    · have hm := (if_neg hq2).symm.trans hm
      refine lv_iload_n hx hb dX0_acknowledge_11 rfl (lv_at hl 1 rfl) ?_
      refine lv_aload_n hx hb dX0_acknowledge_12 rfl (lv_at hl 0 rfl) ?_
      refine g0 hx hb hts hown hK hw h0 9 (by decide) (.ref (A (a0 + 2))) rfl k_fl_RX0_15 (fun _ h => h) dX0_acknowledge_13 ?_
      have hp3 := ld_a h0
      refine lI (v := 40) hx hb hK hw hp3 rfl dX0_acknowledge_16 ?_
      refine lv_icmp_lt (tgt := 21) hx hb dX0_acknowledge_17 (by decide) (fun hq4 => ?_) (fun hq4 => ?_)
      · have hm := (if_pos hq4).symm.trans hm
        refine lv_aload_n hx hb dX0_acknowledge_21 rfl (lv_at hl 0 rfl) ?_
        refine lv_aload_n hx hb dX0_acknowledge_22 rfl (lv_at hl 0 rfl) ?_
        refine lv_iload_n hx hb dX0_acknowledge_23 rfl (lv_at hl 1 rfl) ?_
        obtain ⟨z5, e6, hm⟩ := bd_some hm
        refine ki hw Fr_hi (rV hx hb hml hts hown hK hw (c_X0_fragmentOf l h0 e6) h0 (by decide) rfl (mkV 1 hts k_ml_RX0_63 k_im_yX0_fragmentOf k_se_yX0_fragmentOf k_in_RX0 k_co_yX0_fragmentOf hd_X0_fragmentOf ⟨Nat.le_of_ble_eq_true rfl, Nat.le_of_ble_eq_true rfl⟩) rfl hl.1 rfl (Nat.le_of_ble_eq_true rfl) dX0_acknowledge_24 ⟨Nat.le_of_ble_eq_true rfl, Nat.le_of_ble_eq_true rfl⟩) (fun H locs hw => ?_)
        refine lv_iload_n hx hb dX0_acknowledge_27 rfl (lv_at hl 1 rfl) ?_
        obtain ⟨z7, e8, hm⟩ := bd_some hm
        refine ki hw Fr_hi (rV hx hb hml hts hown hK hw (c_X0_writeSetMask l h0 e8) h0 (by decide) rfl (mkV 2 hts k_ml_RX0_66 k_im_yX0_writeSetMask k_se_yX0_writeSetMask k_in_RX0 k_co_yX0_writeSetMask hd_X0_writeSetMask ⟨Nat.le_of_ble_eq_true rfl, Nat.le_of_ble_eq_true rfl⟩) rfl hl.1 rfl (Nat.le_of_ble_eq_true rfl) dX0_acknowledge_28 ⟨Nat.le_of_ble_eq_true rfl, Nat.le_of_ble_eq_true rfl⟩) (fun H locs hw => ?_)
        refine lv_iload_n hx hb dX0_acknowledge_31 rfl (lv_at hl 2 rfl) ?_
        refine ki hw Fr_hi (rSN hx hb hml hts hown hK hw (c_X5_contains l z7 x2) (mkSN 2 hts hK.2.2.2.1 k_st_yX5_contains k_in_RX5 k_co_yX5_contains hd_X5_contains ⟨Nat.le_of_ble_eq_true rfl, Nat.le_of_ble_eq_true rfl⟩) rfl hl.1 rfl (Nat.le_of_ble_eq_true rfl) dX0_acknowledge_32 ⟨Nat.le_of_ble_eq_true rfl, Nat.le_of_ble_eq_true rfl⟩) (fun H locs hw => ?_)
        refine lv_if_eq (tgt := 50) hx hb dX0_acknowledge_35 (by decide) (fun hq9 => ?_) (fun hq9 => ?_)
        · have hm := (if_pos hq9).symm.trans hm
          cases hm
          exact eV hx hb hr hlocks hK hw dX0_acknowledge_50
        · have hm := (if_neg hq9).symm.trans hm
          refine lv_aload_n hx hb dX0_acknowledge_38 rfl (lv_at hl 0 rfl) ?_
          refine g0 hx hb hts hown hK hw h0 9 (by decide) (.ref (A (a0 + 2))) rfl k_fl_RX0_15 (fun _ h => h) dX0_acknowledge_39 ?_
          have hp10 := ld_a h0
          refine lv_iload_n hx hb dX0_acknowledge_42 rfl (lv_at hl 1 rfl) ?_
          refine lv_dup2_11 hx hb dX0_acknowledge_43 rfl rfl ?_
          obtain ⟨hi11, hm⟩ := ck_some hm
          refine gI hx hb hK hw hp10 hi11 dX0_acknowledge_44 ?_
          refine lv_iconst (v := 1) hx hb dX0_acknowledge_45 (by decide) ?_
          refine lv_iload_n hx hb dX0_acknowledge_46 rfl (lv_at hl 2 rfl) ?_
          refine lv_ishl hx hb dX0_acknowledge_47 ?_
          refine lv_ior hx hb dX0_acknowledge_48 ?_
          obtain ⟨hi12, hm⟩ := ck_some hm
          refine pI hx hb hK hw hp10 hi12 dX0_acknowledge_49 (fun H locs hw => ?_)
          cases hm
          exact eV hx hb hr hlocks hK hw dX0_acknowledge_50
      · have hm := (if_neg hq4).symm.trans hm
        cases hm
        exact eV hx hb hr hlocks hK hw dX0_acknowledge_20
set_option maxHeartbeats 4000000 in
set_option maxRecDepth 100000 in
theorem c_X0_forgetAcknowledgements (l : Launch) {D : va_G} {cy : Nat → ClassId} {A : Nat → Nat} {G : Nat → Bool} {M : Mem} {sz : Nat} {a0 : Nat} {x1 : Int32} {x2 : Int32} (h0 : TT G 0 a0)  {z : Mem} (hm : m_X0_forgetAcknowledgements a0 x1 x2 M = some z) : Met l yX0_forgetAcknowledgements (wm yX0_forgetAcknowledgements cX0_forgetAcknowledgements 4 none) ({ frames := 1, cells := 0, slots := 0, locals := 21 } : Room) (va_Pc [.ref (A a0), .int x1, .int x2] (Pr D cy A G M sz)) (va_Qv (fun (u : Mem) => u = z) (Po D cy A G (Fr A G sz)) (Fr A G sz))  0 0 (Fr A G sz) := by
  refine ofB (Qc := fun sz => va_Qv (fun (u : Mem) => u = z) (Po D cy A G (Fr A G sz)) (Fr A G sz)) (by decide +kernel) (Nat.le_of_ble_eq_true rfl) ?_
  intro p e s m below meth c hx hb hr hts hown hlocks hml hmn hK hw ls hl
  have hl : lv_has ls 4 [(0, .ref (A a0)), (1, .int x1), (2, .int x2)] := hl
  have J6 : ∀  (n : Nat) (v3 : Int32) (M : Mem), m_X0_forgetAcknowledgements_L6 a0 x1 x2 n v3 M = some z → ∀ (H : Heap) (locs : List Loc), WD D cy (Fr A G s.heap.size) A s.heap G M H locs → ∀ ls : Array Slot, lv_has ls 4 [(0, .ref (A a0)), (2, .int x2), (3, .int v3)] → W p l e (headSpec (wm yX0_forgetAcknowledgements cX0_forgetAcknowledgements 4 none) ({ frames := 1, cells := 0, slots := 0, locals := 21 } : Room)).room s m ([.ref (A a0), .int x1, .int x2] : List Value).toArray below meth c H locs 0 0 (MQ below (va_Qv (fun (u : Mem) => u = z) (Po D cy A G (Fr A G s.heap.size)) (Fr A G s.heap.size)) ([.ref (A a0), .int x1, .int x2] : List Value).toArray s 0 0 (Fr A G s.heap.size)) (F0 m 6 ls []) := by
    intro n
    induction n with
    | zero =>
      intro v3 M hm
      cases (show (none : Option Mem) = some z from hm)
    | succ n ih =>
      intro v3 M hm H locs hw ls hl
      have hm := (m_X0_forgetAcknowledgements_L6_s a0 x1 x2 n v3 M).symm.trans hm
      refine lv_iload_n hx hb dX0_forgetAcknowledgements_6 rfl (lv_at hl 2 rfl) ?_
      refine lv_aload_n hx hb dX0_forgetAcknowledgements_7 rfl (lv_at hl 0 rfl) ?_
      refine g0 hx hb hts hown hK hw h0 5 (by decide) (.int (gF M a0 5)) rfl k_fl_RX0_40 (fun _ h => h) dX0_forgetAcknowledgements_8 ?_
      refine lv_icmp_ge (tgt := 43) hx hb dX0_forgetAcknowledgements_11 (by decide) (fun hq1 => ?_) (fun hq1 => ?_)
      · have hm := (if_pos hq1).symm.trans hm
        cases hm
        exact eV hx hb hr hlocks hK hw dX0_forgetAcknowledgements_43
      · have hm := (if_neg hq1).symm.trans hm
        refine lv_iload_n hx hb dX0_forgetAcknowledgements_14 rfl (lv_at hl 2 rfl) ?_
        refine lv_aload_n hx hb dX0_forgetAcknowledgements_15 rfl (lv_at hl 0 rfl) ?_
        refine g0 hx hb hts hown hK hw h0 9 (by decide) (.ref (A (a0 + 2))) rfl k_fl_RX0_15 (fun _ h => h) dX0_forgetAcknowledgements_16 ?_
        have hp2 := ld_a h0
        refine lI (v := 40) hx hb hK hw hp2 rfl dX0_forgetAcknowledgements_19 ?_
        refine lv_icmp_ge (tgt := 43) hx hb dX0_forgetAcknowledgements_20 (by decide) (fun hq3 => ?_) (fun hq3 => ?_)
        · have hm := (if_pos hq3).symm.trans hm
          cases hm
          exact eV hx hb hr hlocks hK hw dX0_forgetAcknowledgements_43
        · have hm := (if_neg hq3).symm.trans hm
          refine lv_aload_n hx hb dX0_forgetAcknowledgements_23 rfl (lv_at hl 0 rfl) ?_
          refine g0 hx hb hts hown hK hw h0 9 (by decide) (.ref (A (a0 + 2))) rfl k_fl_RX0_15 (fun _ h => h) dX0_forgetAcknowledgements_24 ?_
          have hp4 := ld_a h0
          refine lv_iload_n hx hb dX0_forgetAcknowledgements_27 rfl (lv_at hl 2 rfl) ?_
          refine lv_dup2_11 hx hb dX0_forgetAcknowledgements_28 rfl rfl ?_
          obtain ⟨hi5, hm⟩ := ck_some hm
          refine gI hx hb hK hw hp4 hi5 dX0_forgetAcknowledgements_29 ?_
          refine lv_iconst (v := 1) hx hb dX0_forgetAcknowledgements_30 (by decide) ?_
          refine lv_iload_n hx hb dX0_forgetAcknowledgements_31 rfl (lv_at hl 1 rfl) ?_
          refine lv_ishl hx hb dX0_forgetAcknowledgements_32 ?_
          refine lv_iconst (v := (-1)) hx hb dX0_forgetAcknowledgements_33 (by decide) ?_
          refine lv_ixor hx hb dX0_forgetAcknowledgements_34 ?_
          refine lv_iand hx hb dX0_forgetAcknowledgements_35 ?_
          obtain ⟨hi6, hm⟩ := ck_some hm
          refine pI hx hb hK hw hp4 hi6 dX0_forgetAcknowledgements_36 (fun H locs hw => ?_)
          refine lv_iinc (v := (v3 + 1)) (lv' := [(3, .int (v3 + 1)), (0, .ref (A a0)), (2, .int x2)]) hx hb dX0_forgetAcknowledgements_37 hl (k := 2) rfl rfl (by decide) rfl (fun ls hl => ?_)
          refine lv_goto (tgt := 6) hx hb dX0_forgetAcknowledgements_40 (by decide) ?_
          exact ih (v3 + 1) (aI (a0 + 2) v3 ((gR M (a0 + 2) (cl v3)) &&& ((1 <<< (x2 &&& 31)) ^^^ (-1))) M) hm H locs hw ls (lv_sub hl [1, 2, 0] rfl)
  unfold m_X0_forgetAcknowledgements at hm
  revert hw
  suffices K : ∀ (H : Heap) (locs : List Loc), WD D cy (Fr A G s.heap.size) A s.heap G M H locs → W p l e (headSpec (wm yX0_forgetAcknowledgements cX0_forgetAcknowledgements 4 none) ({ frames := 1, cells := 0, slots := 0, locals := 21 } : Room)).room s m ([.ref (A a0), .int x1, .int x2] : List Value).toArray below meth c H locs 0 0 (MQ below (va_Qv (fun (u : Mem) => u = z) (Po D cy A G (Fr A G s.heap.size)) (Fr A G s.heap.size)) ([.ref (A a0), .int x1, .int x2] : List Value).toArray s 0 0 (Fr A G s.heap.size)) (F0 m 0 ls []) from fun hw => K _ _ hw
  intro H locs hw
  refine lv_iload_n hx hb dX0_forgetAcknowledgements_0 rfl (lv_at hl 1 rfl) ?_
  refine lv_iconst (v := 0) hx hb dX0_forgetAcknowledgements_1 (by decide) ?_
  refine mxI hx hb (hml.trans hl.1.symm) hts hown k_ml_RX0_74 (Nat.le_of_ble_eq_true rfl) (Nat.le_of_ble_eq_true rfl) (Nat.le_of_ble_eq_true rfl) (Nat.le_of_ble_eq_true rfl) dX0_forgetAcknowledgements_2 ?_
  refine lv_istore_n (lv' := [(3, .int (if x1 < 0 then 0 else x1)), (0, .ref (A a0)), (1, .int x1), (2, .int x2)]) hx hb dX0_forgetAcknowledgements_5 rfl hl (by decide) rfl (fun ls hl => ?_)
  exact J6 fuel (if x1 < 0 then 0 else x1) M hm H locs hw ls (lv_sub hl [1, 3, 0] rfl)
set_option maxHeartbeats 4000000 in
set_option maxRecDepth 100000 in
theorem c_X0_lastConfirmed (l : Launch) {D : va_G} {cy : Nat → ClassId} {A : Nat → Nat} {G : Nat → Bool} {M : Mem} {sz : Nat} {a0 : Nat} (h0 : TT G 0 a0)  {z : Int32} (hm : m_X0_lastConfirmed a0 M = some z) : Met l yX0_lastConfirmed (wm yX0_lastConfirmed cX0_lastConfirmed 2 (some .int)) ({ frames := 2, cells := 0, slots := 0, locals := 41 } : Room) (va_Pc [.ref (A a0)] (Pr D cy A G M sz)) (va_Qi (fun (r' : Int32) (u : Mem) => r' = z ∧ u = M) (Po D cy A G (Fr A G sz)) (Fr A G sz))  0 0 (Fr A G sz) := by
  refine ofB (Qc := fun sz => va_Qi (fun (r' : Int32) (u : Mem) => r' = z ∧ u = M) (Po D cy A G (Fr A G sz)) (Fr A G sz)) (by decide +kernel) (Nat.le_of_ble_eq_true rfl) ?_
  intro p e s m below meth c hx hb hr hts hown hlocks hml hmn hK hw ls hl
  have hl : lv_has ls 2 [(0, .ref (A a0))] := hl
  have J2 : ∀  (n : Nat) (v1 : Int32), m_X0_lastConfirmed_L2 a0 M n v1 = some z → ∀ (H : Heap) (locs : List Loc), WD D cy (Fr A G s.heap.size) A s.heap G M H locs → ∀ ls : Array Slot, lv_has ls 2 [(0, .ref (A a0)), (1, .int v1)] → W p l e (headSpec (wm yX0_lastConfirmed cX0_lastConfirmed 2 (some .int)) ({ frames := 2, cells := 0, slots := 0, locals := 41 } : Room)).room s m ([.ref (A a0)] : List Value).toArray below meth c H locs 0 0 (MQ below (va_Qi (fun (r' : Int32) (u : Mem) => r' = z ∧ u = M) (Po D cy A G (Fr A G s.heap.size)) (Fr A G s.heap.size)) ([.ref (A a0)] : List Value).toArray s 0 0 (Fr A G s.heap.size)) (F0 m 2 ls []) := by
    intro n
    induction n with
    | zero =>
      intro v1 hm
      cases (show (none : Option Int32) = some z from hm)
    | succ n ih =>
      intro v1 hm H locs hw ls hl
      have hm := (m_X0_lastConfirmed_L2_s a0 M n v1).symm.trans hm
      refine lv_iload_n hx hb dX0_lastConfirmed_2 rfl (lv_at hl 1 rfl) ?_
      refine lv_aload_n hx hb dX0_lastConfirmed_3 rfl (lv_at hl 0 rfl) ?_
      refine g0 hx hb hts hown hK hw h0 5 (by decide) (.int (gF M a0 5)) rfl k_fl_RX0_40 (fun _ h => h) dX0_lastConfirmed_4 ?_
      refine lv_icmp_ge (tgt := 28) hx hb dX0_lastConfirmed_7 (by decide) (fun hq1 => ?_) (fun hq1 => ?_)
      · have hm := (if_pos hq1).symm.trans hm
        refine lv_iload_n hx hb dX0_lastConfirmed_28 rfl (lv_at hl 1 rfl) ?_
        refine lv_iconst (v := 1) hx hb dX0_lastConfirmed_29 (by decide) ?_
        refine lv_isub hx hb dX0_lastConfirmed_30 ?_
        cases hm
        exact eI hx hb hr hlocks hK hw dX0_lastConfirmed_31
      · have hm := (if_neg hq1).symm.trans hm
        refine lv_aload_n hx hb dX0_lastConfirmed_10 rfl (lv_at hl 0 rfl) ?_
        refine lv_iload_n hx hb dX0_lastConfirmed_11 rfl (lv_at hl 1 rfl) ?_
        obtain ⟨z2, e3, hm⟩ := bd_some hm
        refine ki hw Fr_hi (rV hx hb hml hts hown hK hw (c_X0_countAcknowledgers l h0 e3) h0 (by decide) rfl (mkV 1 hts k_ml_RX0_79 k_im_yX0_countAcknowledgers k_se_yX0_countAcknowledgers k_in_RX0 k_co_yX0_countAcknowledgers hd_X0_countAcknowledgers ⟨Nat.le_of_ble_eq_true rfl, Nat.le_of_ble_eq_true rfl⟩) rfl hl.1 rfl (Nat.le_of_ble_eq_true rfl) dX0_lastConfirmed_12 ⟨Nat.le_of_ble_eq_true rfl, Nat.le_of_ble_eq_true rfl⟩) (fun H locs hw => ?_)
        refine lv_aload_n hx hb dX0_lastConfirmed_15 rfl (lv_at hl 0 rfl) ?_
        refine g0 hx hb hts hown hK hw h0 3 (by decide) (.int (gF M a0 3)) rfl k_fl_RX0_34 (fun _ h => h) dX0_lastConfirmed_16 ?_
        refine lv_icmp_lt (tgt := 28) hx hb dX0_lastConfirmed_19 (by decide) (fun hq4 => ?_) (fun hq4 => ?_)
        · have hm := (if_pos hq4).symm.trans hm
          refine lv_iload_n hx hb dX0_lastConfirmed_28 rfl (lv_at hl 1 rfl) ?_
          refine lv_iconst (v := 1) hx hb dX0_lastConfirmed_29 (by decide) ?_
          refine lv_isub hx hb dX0_lastConfirmed_30 ?_
          cases hm
          exact eI hx hb hr hlocks hK hw dX0_lastConfirmed_31
        · have hm := (if_neg hq4).symm.trans hm
          refine lv_iinc (v := (v1 + 1)) (lv' := [(1, .int (v1 + 1)), (0, .ref (A a0))]) hx hb dX0_lastConfirmed_22 hl (k := 1) rfl rfl (by decide) rfl (fun ls hl => ?_)
          refine lv_goto (tgt := 2) hx hb dX0_lastConfirmed_25 (by decide) ?_
          exact ih (v1 + 1) hm H locs hw ls (lv_sub hl [1, 0] rfl)
  unfold m_X0_lastConfirmed at hm
  revert hw
  suffices K : ∀ (H : Heap) (locs : List Loc), WD D cy (Fr A G s.heap.size) A s.heap G M H locs → W p l e (headSpec (wm yX0_lastConfirmed cX0_lastConfirmed 2 (some .int)) ({ frames := 2, cells := 0, slots := 0, locals := 41 } : Room)).room s m ([.ref (A a0)] : List Value).toArray below meth c H locs 0 0 (MQ below (va_Qi (fun (r' : Int32) (u : Mem) => r' = z ∧ u = M) (Po D cy A G (Fr A G s.heap.size)) (Fr A G s.heap.size)) ([.ref (A a0)] : List Value).toArray s 0 0 (Fr A G s.heap.size)) (F0 m 0 ls []) from fun hw => K _ _ hw
  intro H locs hw
  refine lv_iconst (v := 0) hx hb dX0_lastConfirmed_0 (by decide) ?_
  refine lv_istore_n (lv' := [(1, .int 0), (0, .ref (A a0))]) hx hb dX0_lastConfirmed_1 rfl hl (by decide) rfl (fun ls hl => ?_)
  exact J2 fuel 0 hm H locs hw ls (lv_sub hl [1, 0] rfl)
set_option maxHeartbeats 4000000 in
set_option maxRecDepth 100000 in
theorem c_X0_lastToRead (l : Launch) {D : va_G} {cy : Nat → ClassId} {A : Nat → Nat} {G : Nat → Bool} {M : Mem} {sz : Nat} {a0 : Nat} (h0 : TT G 0 a0)  {z : Int32} (hm : m_X0_lastToRead a0 M = some z) : Met l yX0_lastToRead (wm yX0_lastToRead cX0_lastToRead 1 (some .int)) ({ frames := 3, cells := 0, slots := 0, locals := 62 } : Room) (va_Pc [.ref (A a0)] (Pr D cy A G M sz)) (va_Qi (fun (r' : Int32) (u : Mem) => r' = z ∧ u = M) (Po D cy A G (Fr A G sz)) (Fr A G sz))  0 0 (Fr A G sz) := by
  refine ofB (Qc := fun sz => va_Qi (fun (r' : Int32) (u : Mem) => r' = z ∧ u = M) (Po D cy A G (Fr A G sz)) (Fr A G sz)) (by decide +kernel) (Nat.le_of_ble_eq_true rfl) ?_
  intro p e s m below meth c hx hb hr hts hown hlocks hml hmn hK hw ls hl
  have hl : lv_has ls 1 [(0, .ref (A a0))] := hl
  unfold m_X0_lastToRead at hm
  revert hw
  suffices K : ∀ (H : Heap) (locs : List Loc), WD D cy (Fr A G s.heap.size) A s.heap G M H locs → W p l e (headSpec (wm yX0_lastToRead cX0_lastToRead 1 (some .int)) ({ frames := 3, cells := 0, slots := 0, locals := 62 } : Room)).room s m ([.ref (A a0)] : List Value).toArray below meth c H locs 0 0 (MQ below (va_Qi (fun (r' : Int32) (u : Mem) => r' = z ∧ u = M) (Po D cy A G (Fr A G s.heap.size)) (Fr A G s.heap.size)) ([.ref (A a0)] : List Value).toArray s 0 0 (Fr A G s.heap.size)) (F0 m 0 ls []) from fun hw => K _ _ hw
  intro H locs hw
  refine lv_aload_n hx hb dX0_lastToRead_0 rfl (lv_at hl 0 rfl) ?_
  refine g0 hx hb hts hown hK hw h0 4 (by decide) (.int (gF M a0 4)) rfl k_fl_RX0_37 (fun _ h => h) dX0_lastToRead_1 ?_
  refine lv_if_ne (tgt := 14) hx hb dX0_lastToRead_4 (by decide) (fun hq1 => ?_) (fun hq1 => ?_)
  · have hm := (if_neg hq1).symm.trans hm
    refine lv_aload_n hx hb dX0_lastToRead_14 rfl (lv_at hl 0 rfl) ?_
    refine g0 hx hb hts hown hK hw h0 4 (by decide) (.int (gF M a0 4)) rfl k_fl_RX0_37 (fun _ h => h) dX0_lastToRead_15 ?_
    refine lv_iconst (v := 2) hx hb dX0_lastToRead_18 (by decide) ?_
    refine lv_icmp_ne (tgt := 29) hx hb dX0_lastToRead_19 (by decide) (fun hq2 => ?_) (fun hq2 => ?_)
    · have hm := (if_neg hq2).symm.trans hm
      refine lv_iconst (v := (-1)) hx hb dX0_lastToRead_29 (by decide) ?_
      cases hm
      exact eI hx hb hr hlocks hK hw dX0_lastToRead_30
    · have hm := (if_pos hq2).symm.trans hm
      refine lv_aload_n hx hb dX0_lastToRead_22 rfl (lv_at hl 0 rfl) ?_
      refine g0 hx hb hts hown hK hw h0 6 (by decide) (.int (gF M a0 6)) rfl k_fl_RX0_43 (fun _ h => h) dX0_lastToRead_23 ?_
      refine lv_goto (tgt := 30) hx hb dX0_lastToRead_26 (by decide) ?_
      cases hm
      exact eI hx hb hr hlocks hK hw dX0_lastToRead_30
  · have hm := (if_pos hq1).symm.trans hm
    refine lv_aload_n hx hb dX0_lastToRead_7 rfl (lv_at hl 0 rfl) ?_
    obtain ⟨z3, e4, hm⟩ := bd_some hm
    refine ki hw Fr_hi (rV hx hb hml hts hown hK hw (c_X0_lastConfirmed l h0 e4) h0 (by decide) rfl (mkV 0 hts k_ml_RX0_82 k_im_yX0_lastConfirmed k_se_yX0_lastConfirmed k_in_RX0 k_co_yX0_lastConfirmed hd_X0_lastConfirmed ⟨Nat.le_of_ble_eq_true rfl, Nat.le_of_ble_eq_true rfl⟩) rfl hl.1 rfl (Nat.le_of_ble_eq_true rfl) dX0_lastToRead_8 ⟨Nat.le_of_ble_eq_true rfl, Nat.le_of_ble_eq_true rfl⟩) (fun H locs hw => ?_)
    refine lv_goto (tgt := 30) hx hb dX0_lastToRead_11 (by decide) ?_
    cases hm
    exact eI hx hb hr hlocks hK hw dX0_lastToRead_30
set_option maxHeartbeats 4000000 in
set_option maxRecDepth 100000 in
theorem c_X0_lastFragment (l : Launch) {D : va_G} {cy : Nat → ClassId} {A : Nat → Nat} {G : Nat → Bool} {M : Mem} {sz : Nat} {a0 : Nat} (h0 : TT G 0 a0)   : Met l yX0_lastFragment (wm yX0_lastFragment cX0_lastFragment 1 (some .int)) ({ frames := 0, cells := 0, slots := 0, locals := 0 } : Room) (va_Pc [.ref (A a0)] (Pr D cy A G M sz)) (va_Qi (fun (r' : Int32) (u : Mem) => r' = (m_X0_lastFragment a0 M) ∧ u = M) (Po D cy A G (Fr A G sz)) (Fr A G sz))  0 0 (Fr A G sz) := by
  refine ofB (Qc := fun sz => va_Qi (fun (r' : Int32) (u : Mem) => r' = (m_X0_lastFragment a0 M) ∧ u = M) (Po D cy A G (Fr A G sz)) (Fr A G sz)) (by decide +kernel) (Nat.le_of_ble_eq_true rfl) ?_
  intro p e s m below meth c hx hb hr hts hown hlocks hml hmn hK hw ls hl
  have hl : lv_has ls 1 [(0, .ref (A a0))] := hl
  generalize hm : m_X0_lastFragment a0 M = z
  unfold m_X0_lastFragment at hm
  revert hw
  suffices K : ∀ (H : Heap) (locs : List Loc), WD D cy (Fr A G s.heap.size) A s.heap G M H locs → W p l e (headSpec (wm yX0_lastFragment cX0_lastFragment 1 (some .int)) ({ frames := 0, cells := 0, slots := 0, locals := 0 } : Room)).room s m ([.ref (A a0)] : List Value).toArray below meth c H locs 0 0 (MQ below (va_Qi (fun (r' : Int32) (u : Mem) => r' = z ∧ u = M) (Po D cy A G (Fr A G s.heap.size)) (Fr A G s.heap.size)) ([.ref (A a0)] : List Value).toArray s 0 0 (Fr A G s.heap.size)) (F0 m 0 ls []) from fun hw => K _ _ hw
  intro H locs hw
  refine lv_aload_n hx hb dX0_lastFragment_0 rfl (lv_at hl 0 rfl) ?_
  refine g0 hx hb hts hown hK hw h0 7 (by decide) (.int (gF M a0 7)) rfl k_fl_RX0_46 (fun _ h => h) dX0_lastFragment_1 ?_
  refine lv_iconst (v := 1) hx hb dX0_lastFragment_4 (by decide) ?_
  refine lv_isub hx hb dX0_lastFragment_5 ?_
  cases hm
  exact eI hx hb hr hlocks hK hw dX0_lastFragment_6
set_option maxHeartbeats 4000000 in
set_option maxRecDepth 100000 in
theorem c_X0_addFragment (l : Launch) {D : va_G} {cy : Nat → ClassId} {A : Nat → Nat} {G : Nat → Bool} {M : Mem} {sz : Nat} {a0 : Nat} {x1 : Int32} (h0 : TT G 0 a0)  {z : Mem} (hm : m_X0_addFragment a0 x1 M = some z) : Met l yX0_addFragment (wm yX0_addFragment cX0_addFragment 4 none) ({ frames := 2, cells := 0, slots := 0, locals := 46 } : Room) (va_Pc [.ref (A a0), .int x1] (Pr D cy A G M sz)) (va_Qv (fun (u : Mem) => u = z) (Po D cy A G (Fr A G sz)) (Fr A G sz))  0 0 (Fr A G sz) := by
  refine ofB (Qc := fun sz => va_Qv (fun (u : Mem) => u = z) (Po D cy A G (Fr A G sz)) (Fr A G sz)) (by decide +kernel) (Nat.le_of_ble_eq_true rfl) ?_
  intro p e s m below meth c hx hb hr hts hown hlocks hml hmn hK hw ls hl
  have hl : lv_has ls 4 [(0, .ref (A a0)), (1, .int x1)] := hl
  have J29 : ∀  (n : Nat) (v2 : Int32) (v3 : Int32) (M : Mem), m_X0_addFragment_L29 a0 x1 n v2 v3 M = some z → ∀ (H : Heap) (locs : List Loc), WD D cy (Fr A G s.heap.size) A s.heap G M H locs → ∀ ls : Array Slot, lv_has ls 4 [(0, .ref (A a0)), (2, .int v2), (3, .int v3)] → W p l e (headSpec (wm yX0_addFragment cX0_addFragment 4 none) ({ frames := 2, cells := 0, slots := 0, locals := 46 } : Room)).room s m ([.ref (A a0), .int x1] : List Value).toArray below meth c H locs 0 0 (MQ below (va_Qv (fun (u : Mem) => u = z) (Po D cy A G (Fr A G s.heap.size)) (Fr A G s.heap.size)) ([.ref (A a0), .int x1] : List Value).toArray s 0 0 (Fr A G s.heap.size)) (F0 m 29 ls []) := by
    intro n
    induction n with
    | zero =>
      intro v2 v3 M hm
      cases (show (none : Option Mem) = some z from hm)
    | succ n ih =>
      intro v2 v3 M hm H locs hw ls hl
      have hm := (m_X0_addFragment_L29_s a0 x1 n v2 v3 M).symm.trans hm
      refine lv_iload_n hx hb dX0_addFragment_29 rfl (lv_at hl 2 rfl) ?_
      refine lv_aload_n hx hb dX0_addFragment_30 rfl (lv_at hl 0 rfl) ?_
      refine g0 hx hb hts hown hK hw h0 1 (by decide) (.int (gF M a0 1)) rfl k_fl_RX0_28 (fun _ h => h) dX0_addFragment_31 ?_
      refine lv_icmp_ge (tgt := 57) hx hb dX0_addFragment_34 (by decide) (fun hq6 => ?_) (fun hq6 => ?_)
      · have hm := (if_pos hq6).symm.trans hm
        refine lv_aload_n hx hb dX0_addFragment_57 rfl (lv_at hl 0 rfl) ?_
        refine lv_dup hx hb dX0_addFragment_58 rfl ?_
        refine g0 hx hb hts hown hK hw h0 7 (by decide) (.int (gF M a0 7)) rfl k_fl_RX0_46 (fun _ h => h) dX0_addFragment_59 ?_
        refine lv_iconst (v := 1) hx hb dX0_addFragment_62 (by decide) ?_
        refine lv_iadd hx hb dX0_addFragment_63 ?_
        refine p0 hx hb hts hown hK hw h0 7 (by decide) k_fl_RX0_46 (fun _ h => h) rfl rfl rfl dX0_addFragment_64 (fun H locs hw => ?_)
        cases hm
        exact eV hx hb hr hlocks hK hw dX0_addFragment_67
      · have hm := (if_neg hq6).symm.trans hm
        refine lv_aload_n hx hb dX0_addFragment_37 rfl (lv_at hl 0 rfl) ?_
        refine lv_iload_n hx hb dX0_addFragment_38 rfl (lv_at hl 1 rfl) ?_
        refine lv_iload_n hx hb dX0_addFragment_39 rfl (lv_at hl 2 rfl) ?_
        refine lv_aload_n hx hb dX0_addFragment_40 rfl (lv_at hl 0 rfl) ?_
        refine lv_iload_n hx hb dX0_addFragment_41 rfl (lv_at hl 1 rfl) ?_
        refine lv_iconst (v := 1) hx hb dX0_addFragment_42 (by decide) ?_
        refine lv_isub hx hb dX0_addFragment_43 ?_
        refine lv_iload_n hx hb dX0_addFragment_44 rfl (lv_at hl 2 rfl) ?_
        obtain ⟨z7, e8, hm⟩ := bd_some hm
        refine ki hw Fr_hi (rV hx hb hml hts hown hK hw (c_X0_nodeAt l h0 e8) h0 (by decide) rfl (mkV 2 hts k_ml_RX0_92 k_im_yX0_nodeAt k_se_yX0_nodeAt k_in_RX0 k_co_yX0_nodeAt hd_X0_nodeAt ⟨Nat.le_of_ble_eq_true rfl, Nat.le_of_ble_eq_true rfl⟩) rfl hl.1 rfl (Nat.le_of_ble_eq_true rfl) dX0_addFragment_45 ⟨Nat.le_of_ble_eq_true rfl, Nat.le_of_ble_eq_true rfl⟩) (fun H locs hw => ?_)
        obtain ⟨z9, e10, hm⟩ := bd_some hm
        refine kv hw Fr_hi (rV hx hb hml hts hown hK hw (c_X0_setNode l h0 e10) h0 (by decide) rfl (mkV 3 hts k_ml_RX0_49 k_im_yX0_setNode k_se_yX0_setNode k_in_RX0 k_co_yX0_setNode hd_X0_setNode ⟨Nat.le_of_ble_eq_true rfl, Nat.le_of_ble_eq_true rfl⟩) rfl hl.1 rfl (Nat.le_of_ble_eq_true rfl) dX0_addFragment_48 ⟨Nat.le_of_ble_eq_true rfl, Nat.le_of_ble_eq_true rfl⟩) (fun H locs hw => ?_)
        refine lv_iinc (v := (v3 + 1)) (lv' := [(3, .int (v3 + 1)), (0, .ref (A a0)), (2, .int v2)]) hx hb dX0_addFragment_51 hl (k := 2) rfl rfl (by decide) rfl (fun ls hl => ?_)
        refine lv_goto (tgt := 29) hx hb dX0_addFragment_54 (by decide) ?_
        exact ih v2 (v3 + 1) z9 hm H locs hw ls (lv_sub hl [1, 2, 0] rfl)
  unfold m_X0_addFragment at hm
  revert hw
  suffices K : ∀ (H : Heap) (locs : List Loc), WD D cy (Fr A G s.heap.size) A s.heap G M H locs → W p l e (headSpec (wm yX0_addFragment cX0_addFragment 4 none) ({ frames := 2, cells := 0, slots := 0, locals := 46 } : Room)).room s m ([.ref (A a0), .int x1] : List Value).toArray below meth c H locs 0 0 (MQ below (va_Qv (fun (u : Mem) => u = z) (Po D cy A G (Fr A G s.heap.size)) (Fr A G s.heap.size)) ([.ref (A a0), .int x1] : List Value).toArray s 0 0 (Fr A G s.heap.size)) (F0 m 0 ls []) from fun hw => K _ _ hw
  intro H locs hw
  refine lv_aload_n hx hb dX0_addFragment_0 rfl (lv_at hl 0 rfl) ?_
  refine g0 hx hb hts hown hK hw h0 7 (by decide) (.int (gF M a0 7)) rfl k_fl_RX0_46 (fun _ h => h) dX0_addFragment_1 ?_
  refine lv_istore_n (lv' := [(2, .int (gF M a0 7)), (0, .ref (A a0)), (1, .int x1)]) hx hb dX0_addFragment_4 rfl hl (by decide) rfl (fun ls hl => ?_)
  refine lv_iload_n hx hb dX0_addFragment_5 rfl (lv_at hl 0 rfl) ?_
  refine lv_iconst (v := 1) hx hb dX0_addFragment_6 (by decide) ?_
  refine lv_icmp_lt (tgt := 19) hx hb dX0_addFragment_7 (by decide) (fun hq1 => ?_) (fun hq1 => ?_)
  · have hm := (if_pos hq1).symm.trans hm
    cases hm
    exact eV hx hb hr hlocks hK hw dX0_addFragment_19
  · have hm := (if_neg hq1).symm.trans hm
    refine lv_iload_n hx hb dX0_addFragment_10 rfl (lv_at hl 0 rfl) ?_
    refine lv_aload_n hx hb dX0_addFragment_11 rfl (lv_at hl 1 rfl) ?_
    refine g0 hx hb hts hown hK hw h0 10 (by decide) (.ref (A (a0 + 3))) rfl k_fl_RX0_18 (fun _ h => h) dX0_addFragment_12 ?_
    have hp2 := ld_s h0
    refine lI (v := 41) hx hb hK hw hp2 rfl dX0_addFragment_15 ?_
    refine lv_icmp_lt (tgt := 20) hx hb dX0_addFragment_16 (by decide) (fun hq3 => ?_) (fun hq3 => ?_)
    · have hm := (if_pos hq3).symm.trans hm
      refine lv_aload_n hx hb dX0_addFragment_20 rfl (lv_at hl 1 rfl) ?_
      refine g0 hx hb hts hown hK hw h0 10 (by decide) (.ref (A (a0 + 3))) rfl k_fl_RX0_18 (fun _ h => h) dX0_addFragment_21 ?_
      have hp4 := ld_s h0
      refine lv_iload_n hx hb dX0_addFragment_24 rfl (lv_at hl 0 rfl) ?_
      refine lv_iload_n hx hb dX0_addFragment_25 rfl (lv_at hl 2 rfl) ?_
      obtain ⟨hi5, hm⟩ := ck_some hm
      refine pI hx hb hK hw hp4 hi5 dX0_addFragment_26 (fun H locs hw => ?_)
      refine lv_iconst (v := 0) hx hb dX0_addFragment_27 (by decide) ?_
      refine lv_istore_n (lv' := [(3, .int 0), (2, .int (gF M a0 7)), (0, .ref (A a0)), (1, .int x1)]) hx hb dX0_addFragment_28 rfl hl (by decide) rfl (fun ls hl => ?_)
      exact J29 fuel (gF M a0 7) 0 (aI (a0 + 3) (gF M a0 7) x1 M) hm H locs hw ls (lv_sub hl [2, 1, 0] rfl)
    · have hm := (if_neg hq3).symm.trans hm
      cases hm
      exact eV hx hb hr hlocks hK hw dX0_addFragment_19
set_option maxHeartbeats 4000000 in
set_option maxRecDepth 100000 in
theorem c_X0_ensembleMask (l : Launch) {D : va_G} {cy : Nat → ClassId} {A : Nat → Nat} {G : Nat → Bool} {M : Mem} {sz : Nat} {a0 : Nat} {x1 : Int32} (h0 : TT G 0 a0)  {z : Int32} (hm : m_X0_ensembleMask a0 x1 M = some z) : Met l yX0_ensembleMask (wm yX0_ensembleMask cX0_ensembleMask 4 (some .int)) ({ frames := 2, cells := 0, slots := 0, locals := 45 } : Room) (va_Pc [.ref (A a0), .int x1] (Pr D cy A G M sz)) (va_Qi (fun (r' : Int32) (u : Mem) => r' = z ∧ u = M) (Po D cy A G (Fr A G sz)) (Fr A G sz))  0 0 (Fr A G sz) := by
  refine ofB (Qc := fun sz => va_Qi (fun (r' : Int32) (u : Mem) => r' = z ∧ u = M) (Po D cy A G (Fr A G sz)) (Fr A G sz)) (by decide +kernel) (Nat.le_of_ble_eq_true rfl) ?_
  intro p e s m below meth c hx hb hr hts hown hlocks hml hmn hK hw ls hl
  have hl : lv_has ls 4 [(0, .ref (A a0)), (1, .int x1)] := hl
  have J4 : ∀  (n : Nat) (v2 : Int32) (v3 : Int32), m_X0_ensembleMask_L4 a0 x1 M n v2 v3 = some z → ∀ (H : Heap) (locs : List Loc), WD D cy (Fr A G s.heap.size) A s.heap G M H locs → ∀ ls : Array Slot, lv_has ls 4 [(0, .ref (A a0)), (1, .int x1), (2, .int v2), (3, .int v3)] → W p l e (headSpec (wm yX0_ensembleMask cX0_ensembleMask 4 (some .int)) ({ frames := 2, cells := 0, slots := 0, locals := 45 } : Room)).room s m ([.ref (A a0), .int x1] : List Value).toArray below meth c H locs 0 0 (MQ below (va_Qi (fun (r' : Int32) (u : Mem) => r' = z ∧ u = M) (Po D cy A G (Fr A G s.heap.size)) (Fr A G s.heap.size)) ([.ref (A a0), .int x1] : List Value).toArray s 0 0 (Fr A G s.heap.size)) (F0 m 4 ls []) := by
    intro n
    induction n with
    | zero =>
      intro v2 v3 hm
      cases (show (none : Option Int32) = some z from hm)
    | succ n ih =>
      intro v2 v3 hm H locs hw ls hl
      have hm := (m_X0_ensembleMask_L4_s a0 x1 M n v2 v3).symm.trans hm
      refine lv_iload_n hx hb dX0_ensembleMask_4 rfl (lv_at hl 3 rfl) ?_
      refine lv_aload_n hx hb dX0_ensembleMask_5 rfl (lv_at hl 0 rfl) ?_
      refine g0 hx hb hts hown hK hw h0 1 (by decide) (.int (gF M a0 1)) rfl k_fl_RX0_28 (fun _ h => h) dX0_ensembleMask_6 ?_
      refine lv_icmp_ge (tgt := 30) hx hb dX0_ensembleMask_9 (by decide) (fun hq1 => ?_) (fun hq1 => ?_)
      · have hm := (if_pos hq1).symm.trans hm
        refine lv_iload_n hx hb dX0_ensembleMask_30 rfl (lv_at hl 2 rfl) ?_
        cases hm
        exact eI hx hb hr hlocks hK hw dX0_ensembleMask_31
      · have hm := (if_neg hq1).symm.trans hm
        refine lv_iload_n hx hb dX0_ensembleMask_12 rfl (lv_at hl 2 rfl) ?_
        refine lv_aload_n hx hb dX0_ensembleMask_13 rfl (lv_at hl 0 rfl) ?_
        refine lv_iload_n hx hb dX0_ensembleMask_14 rfl (lv_at hl 1 rfl) ?_
        refine lv_iload_n hx hb dX0_ensembleMask_15 rfl (lv_at hl 3 rfl) ?_
        obtain ⟨z2, e3, hm⟩ := bd_some hm
        refine ki hw Fr_hi (rV hx hb hml hts hown hK hw (c_X0_nodeAt l h0 e3) h0 (by decide) rfl (mkV 2 hts k_ml_RX0_92 k_im_yX0_nodeAt k_se_yX0_nodeAt k_in_RX0 k_co_yX0_nodeAt hd_X0_nodeAt ⟨Nat.le_of_ble_eq_true rfl, Nat.le_of_ble_eq_true rfl⟩) rfl hl.1 rfl (Nat.le_of_ble_eq_true rfl) dX0_ensembleMask_16 ⟨Nat.le_of_ble_eq_true rfl, Nat.le_of_ble_eq_true rfl⟩) (fun H locs hw => ?_)
        refine ki hw Fr_hi (rS hx hb hml hts hown hK hw (c_X0_maskOf l z2) (mkS 1 hts k_ml_RX0_95 k_st_yX0_maskOf k_in_RX0 k_co_yX0_maskOf hd_X0_maskOf ⟨Nat.le_of_ble_eq_true rfl, Nat.le_of_ble_eq_true rfl⟩) rfl hl.1 rfl (Nat.le_of_ble_eq_true rfl) dX0_ensembleMask_19 ⟨Nat.le_of_ble_eq_true rfl, Nat.le_of_ble_eq_true rfl⟩) (fun H locs hw => ?_)
        refine lv_ior hx hb dX0_ensembleMask_22 ?_
        refine lv_istore_n (lv' := [(2, .int (v2 ||| (m_X0_maskOf z2))), (0, .ref (A a0)), (1, .int x1), (3, .int v3)]) hx hb dX0_ensembleMask_23 rfl hl (by decide) rfl (fun ls hl => ?_)
        refine lv_iinc (v := (v3 + 1)) (lv' := [(3, .int (v3 + 1)), (2, .int (v2 ||| (m_X0_maskOf z2))), (0, .ref (A a0)), (1, .int x1)]) hx hb dX0_ensembleMask_24 hl (k := 3) rfl rfl (by decide) rfl (fun ls hl => ?_)
        refine lv_goto (tgt := 4) hx hb dX0_ensembleMask_27 (by decide) ?_
        exact ih (v2 ||| (m_X0_maskOf z2)) (v3 + 1) hm H locs hw ls (lv_sub hl [2, 3, 1, 0] rfl)
  unfold m_X0_ensembleMask at hm
  revert hw
  suffices K : ∀ (H : Heap) (locs : List Loc), WD D cy (Fr A G s.heap.size) A s.heap G M H locs → W p l e (headSpec (wm yX0_ensembleMask cX0_ensembleMask 4 (some .int)) ({ frames := 2, cells := 0, slots := 0, locals := 45 } : Room)).room s m ([.ref (A a0), .int x1] : List Value).toArray below meth c H locs 0 0 (MQ below (va_Qi (fun (r' : Int32) (u : Mem) => r' = z ∧ u = M) (Po D cy A G (Fr A G s.heap.size)) (Fr A G s.heap.size)) ([.ref (A a0), .int x1] : List Value).toArray s 0 0 (Fr A G s.heap.size)) (F0 m 0 ls []) from fun hw => K _ _ hw
  intro H locs hw
  refine lv_iconst (v := 0) hx hb dX0_ensembleMask_0 (by decide) ?_
  refine lv_istore_n (lv' := [(2, .int 0), (0, .ref (A a0)), (1, .int x1)]) hx hb dX0_ensembleMask_1 rfl hl (by decide) rfl (fun ls hl => ?_)
  refine lv_iconst (v := 0) hx hb dX0_ensembleMask_2 (by decide) ?_
  refine lv_istore_n (lv' := [(3, .int 0), (2, .int 0), (0, .ref (A a0)), (1, .int x1)]) hx hb dX0_ensembleMask_3 rfl hl (by decide) rfl (fun ls hl => ?_)
  exact J4 fuel 0 0 hm H locs hw ls (lv_sub hl [2, 3, 1, 0] rfl)
