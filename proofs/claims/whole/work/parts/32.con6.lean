set_option maxHeartbeats 4000000 in
set_option maxRecDepth 100000 in
theorem c_X6_thrown (l : Launch) {D : va_G} {cy : Nat → ClassId} {A : Nat → Nat} {G : Nat → Bool} {M : Mem} {sz : Nat} {a0 : Nat} (h0 : TT G 5 a0)   : Met l yX6_thrown (wm yX6_thrown cX6_thrown 1 (some .int)) ({ frames := 0, cells := 0, slots := 0, locals := 0 } : Room) (va_Pc [.ref (A a0)] (Pr D cy A G M sz)) (va_Qi (fun (r' : Int32) (u : Mem) => r' = (m_X6_thrown a0 M) ∧ u = M) (Po D cy A G (Fr A G sz)) (Fr A G sz))  0 0 (Fr A G sz) := by
  refine ofB (Qc := fun sz => va_Qi (fun (r' : Int32) (u : Mem) => r' = (m_X6_thrown a0 M) ∧ u = M) (Po D cy A G (Fr A G sz)) (Fr A G sz)) (by decide +kernel) (Nat.le_of_ble_eq_true rfl) ?_
  intro p e s m below meth c hx hb hr hts hown hlocks hml hmn hK hw ls hl
  have hl : lv_has ls 1 [(0, .ref (A a0))] := hl
  generalize hm : m_X6_thrown a0 M = z
  unfold m_X6_thrown at hm
  revert hw
  suffices K : ∀ (H : Heap) (locs : List Loc), WD D cy (Fr A G s.heap.size) A s.heap G M H locs → W p l e (headSpec (wm yX6_thrown cX6_thrown 1 (some .int)) ({ frames := 0, cells := 0, slots := 0, locals := 0 } : Room)).room s m ([.ref (A a0)] : List Value).toArray below meth c H locs 0 0 (MQ below (va_Qi (fun (r' : Int32) (u : Mem) => r' = z ∧ u = M) (Po D cy A G (Fr A G s.heap.size)) (Fr A G s.heap.size)) ([.ref (A a0)] : List Value).toArray s 0 0 (Fr A G s.heap.size)) (F0 m 0 ls []) from fun hw => K _ _ hw
  intro H locs hw
  refine lv_aload_n hx hb dX6_thrown_0 rfl (lv_at hl 0 rfl) ?_
  refine g5 hx hb hts hown hK hw h0 3 (by decide) (.int (gF M a0 3)) rfl k_fl_RX6_20 (fun _ h => h) dX6_thrown_1 ?_
  cases hm
  exact eI hx hb hr hlocks hK hw dX6_thrown_4
set_option maxHeartbeats 4000000 in
set_option maxRecDepth 100000 in
theorem c_X6_in (l : Launch) {D : va_G} {cy : Nat → ClassId} {A : Nat → Nat} {G : Nat → Bool} {M : Mem} {sz : Nat}   (x0 : Int32) (x1 : Int32) (x2 : Int32)  : Met l yX6_in (wm yX6_in cX6_in 3 (some .boolean)) ({ frames := 0, cells := 0, slots := 0, locals := 0 } : Room) (va_Pc [.int x0, .int x1, .int x2] (Pr D cy A G M sz)) (va_Qi (fun (r' : Int32) (u : Mem) => r' = (m_X6_in x0 x1 x2) ∧ u = M) (Po D cy A G (Fr A G sz)) (Fr A G sz))  0 0 (Fr A G sz) := by
  refine ofB (Qc := fun sz => va_Qi (fun (r' : Int32) (u : Mem) => r' = (m_X6_in x0 x1 x2) ∧ u = M) (Po D cy A G (Fr A G sz)) (Fr A G sz)) (by decide +kernel) (Nat.le_of_ble_eq_true rfl) ?_
  intro p e s m below meth c hx hb hr hts hown hlocks hml hmn hK hw ls hl
  have hl : lv_has ls 3 [(0, .int x0), (1, .int x1), (2, .int x2)] := hl
  generalize hm : m_X6_in x0 x1 x2 = z
  unfold m_X6_in at hm
  revert hw
  suffices K : ∀ (H : Heap) (locs : List Loc), WD D cy (Fr A G s.heap.size) A s.heap G M H locs → W p l e (headSpec (wm yX6_in cX6_in 3 (some .boolean)) ({ frames := 0, cells := 0, slots := 0, locals := 0 } : Room)).room s m ([.int x0, .int x1, .int x2] : List Value).toArray below meth c H locs 0 0 (MQ below (va_Qi (fun (r' : Int32) (u : Mem) => r' = z ∧ u = M) (Po D cy A G (Fr A G s.heap.size)) (Fr A G s.heap.size)) ([.int x0, .int x1, .int x2] : List Value).toArray s 0 0 (Fr A G s.heap.size)) (F0 m 0 ls []) from fun hw => K _ _ hw
  intro H locs hw
  refine lv_iload_n hx hb dX6_in_0 rfl (lv_at hl 0 rfl) ?_
  refine lv_iload_n hx hb dX6_in_1 rfl (lv_at hl 1 rfl) ?_
  refine lv_icmp_lt (tgt := 14) hx hb dX6_in_2 (by decide) (fun hq1 => ?_) (fun hq1 => ?_)
  · have hm := (if_pos hq1).symm.trans hm
    refine lv_iconst (v := 0) hx hb dX6_in_14 (by decide) ?_
    cases hm
    exact eZ (show zb 0 by decide) hx hb hr hlocks hK hw dX6_in_15
  · have hm := (if_neg hq1).symm.trans hm
    refine lv_iload_n hx hb dX6_in_5 rfl (lv_at hl 0 rfl) ?_
    refine lv_iload_n hx hb dX6_in_6 rfl (lv_at hl 2 rfl) ?_
    refine lv_icmp_gt (tgt := 14) hx hb dX6_in_7 (by decide) (fun hq2 => ?_) (fun hq2 => ?_)
    · have hm := (if_pos hq2).symm.trans hm
      refine lv_iconst (v := 0) hx hb dX6_in_14 (by decide) ?_
      cases hm
      exact eZ (show zb 0 by decide) hx hb hr hlocks hK hw dX6_in_15
    · have hm := (if_neg hq2).symm.trans hm
      refine lv_iconst (v := 1) hx hb dX6_in_10 (by decide) ?_
      refine lv_goto (tgt := 15) hx hb dX6_in_11 (by decide) ?_
      cases hm
      exact eZ (show zb 1 by decide) hx hb hr hlocks hK hw dX6_in_15
set_option maxHeartbeats 4000000 in
set_option maxRecDepth 100000 in
theorem c_X6_has (l : Launch) {D : va_G} {cy : Nat → ClassId} {A : Nat → Nat} {G : Nat → Bool} {M : Mem} {sz : Nat}   (x0 : Int32) (x1 : Int32)  : Met l yX6_has (wm yX6_has cX6_has 2 (some .boolean)) ({ frames := 0, cells := 0, slots := 0, locals := 0 } : Room) (va_Pc [.int x0, .int x1] (Pr D cy A G M sz)) (va_Qi (fun (r' : Int32) (u : Mem) => r' = (m_X6_has x0 x1) ∧ u = M) (Po D cy A G (Fr A G sz)) (Fr A G sz))  0 0 (Fr A G sz) := by
  refine ofB (Qc := fun sz => va_Qi (fun (r' : Int32) (u : Mem) => r' = (m_X6_has x0 x1) ∧ u = M) (Po D cy A G (Fr A G sz)) (Fr A G sz)) (by decide +kernel) (Nat.le_of_ble_eq_true rfl) ?_
  intro p e s m below meth c hx hb hr hts hown hlocks hml hmn hK hw ls hl
  have hl : lv_has ls 2 [(0, .int x0), (1, .int x1)] := hl
  generalize hm : m_X6_has x0 x1 = z
  unfold m_X6_has at hm
  revert hw
  suffices K : ∀ (H : Heap) (locs : List Loc), WD D cy (Fr A G s.heap.size) A s.heap G M H locs → W p l e (headSpec (wm yX6_has cX6_has 2 (some .boolean)) ({ frames := 0, cells := 0, slots := 0, locals := 0 } : Room)).room s m ([.int x0, .int x1] : List Value).toArray below meth c H locs 0 0 (MQ below (va_Qi (fun (r' : Int32) (u : Mem) => r' = z ∧ u = M) (Po D cy A G (Fr A G s.heap.size)) (Fr A G s.heap.size)) ([.int x0, .int x1] : List Value).toArray s 0 0 (Fr A G s.heap.size)) (F0 m 0 ls []) from fun hw => K _ _ hw
  intro H locs hw
  refine lv_iload_n hx hb dX6_has_0 rfl (lv_at hl 0 rfl) ?_
  refine lv_iload_n hx hb dX6_has_1 rfl (lv_at hl 1 rfl) ?_
  refine lv_ishr hx hb dX6_has_2 ?_
  refine lv_iconst (v := 1) hx hb dX6_has_3 (by decide) ?_
  refine lv_iand hx hb dX6_has_4 ?_
  refine lv_iconst (v := 1) hx hb dX6_has_5 (by decide) ?_
  refine lv_icmp_ne (tgt := 13) hx hb dX6_has_6 (by decide) (fun hq1 => ?_) (fun hq1 => ?_)
  · have hm := (if_neg hq1).symm.trans hm
    refine lv_iconst (v := 0) hx hb dX6_has_13 (by decide) ?_
    cases hm
    exact eZ (show zb 0 by decide) hx hb hr hlocks hK hw dX6_has_14
  · have hm := (if_pos hq1).symm.trans hm
    refine lv_iconst (v := 1) hx hb dX6_has_9 (by decide) ?_
    refine lv_goto (tgt := 14) hx hb dX6_has_10 (by decide) ?_
    cases hm
    exact eZ (show zb 1 by decide) hx hb hr hlocks hK hw dX6_has_14
set_option maxHeartbeats 4000000 in
set_option maxRecDepth 100000 in
theorem c_X6_count (l : Launch) {D : va_G} {cy : Nat → ClassId} {A : Nat → Nat} {G : Nat → Bool} {M : Mem} {sz : Nat} {x0 : Int32}   {z : Int32} (hm : m_X6_count x0 = some z) : Met l yX6_count (wm yX6_count cX6_count 3 (some .int)) ({ frames := 0, cells := 0, slots := 0, locals := 0 } : Room) (va_Pc [.int x0] (Pr D cy A G M sz)) (va_Qi (fun (r' : Int32) (u : Mem) => r' = z ∧ u = M) (Po D cy A G (Fr A G sz)) (Fr A G sz))  0 0 (Fr A G sz) := by
  refine ofB (Qc := fun sz => va_Qi (fun (r' : Int32) (u : Mem) => r' = z ∧ u = M) (Po D cy A G (Fr A G sz)) (Fr A G sz)) (by decide +kernel) (Nat.le_of_ble_eq_true rfl) ?_
  intro p e s m below meth c hx hb hr hts hown hlocks hml hmn hK hw ls hl
  have hl : lv_has ls 3 [(0, .int x0)] := hl
  have J4 : ∀  (n : Nat) (v1 : Int32) (v2 : Int32), m_X6_count_L4 x0 n v1 v2 = some z → ∀ (H : Heap) (locs : List Loc), WD D cy (Fr A G s.heap.size) A s.heap G M H locs → ∀ ls : Array Slot, lv_has ls 3 [(0, .int x0), (1, .int v1), (2, .int v2)] → W p l e (headSpec (wm yX6_count cX6_count 3 (some .int)) ({ frames := 0, cells := 0, slots := 0, locals := 0 } : Room)).room s m ([.int x0] : List Value).toArray below meth c H locs 0 0 (MQ below (va_Qi (fun (r' : Int32) (u : Mem) => r' = z ∧ u = M) (Po D cy A G (Fr A G s.heap.size)) (Fr A G s.heap.size)) ([.int x0] : List Value).toArray s 0 0 (Fr A G s.heap.size)) (F0 m 4 ls []) := by
    intro n
    induction n with
    | zero =>
      intro v1 v2 hm
      cases (show (none : Option Int32) = some z from hm)
    | succ n ih =>
      intro v1 v2 hm H locs hw ls hl
      have hm := (m_X6_count_L4_s x0 n v1 v2).symm.trans hm
      refine lv_iload_n hx hb dX6_count_4 rfl (lv_at hl 2 rfl) ?_
      refine lv_bipush (v := 8) hx hb dX6_count_5 (by decide) ?_
      refine lv_icmp_ge (tgt := 24) hx hb dX6_count_7 (by decide) (fun hq1 => ?_) (fun hq1 => ?_)
      · have hm := (if_pos hq1).symm.trans hm
        refine lv_iload_n hx hb dX6_count_24 rfl (lv_at hl 1 rfl) ?_
        cases hm
        exact eI hx hb hr hlocks hK hw dX6_count_25
      · have hm := (if_neg hq1).symm.trans hm
        refine lv_iload_n hx hb dX6_count_10 rfl (lv_at hl 1 rfl) ?_
        refine lv_iload_n hx hb dX6_count_11 rfl (lv_at hl 0 rfl) ?_
        refine lv_iload_n hx hb dX6_count_12 rfl (lv_at hl 2 rfl) ?_
        refine lv_ishr hx hb dX6_count_13 ?_
        refine lv_iconst (v := 1) hx hb dX6_count_14 (by decide) ?_
        refine lv_iand hx hb dX6_count_15 ?_
        refine lv_iadd hx hb dX6_count_16 ?_
        refine lv_istore_n (lv' := [(1, .int (v1 + ((x0 >>> (v2 &&& 31)) &&& 1))), (0, .int x0), (2, .int v2)]) hx hb dX6_count_17 rfl hl (by decide) rfl (fun ls hl => ?_)
        refine lv_iinc (v := (v2 + 1)) (lv' := [(2, .int (v2 + 1)), (1, .int (v1 + ((x0 >>> (v2 &&& 31)) &&& 1))), (0, .int x0)]) hx hb dX6_count_18 hl (k := 2) rfl rfl (by decide) rfl (fun ls hl => ?_)
        refine lv_goto (tgt := 4) hx hb dX6_count_21 (by decide) ?_
        exact ih (v1 + ((x0 >>> (v2 &&& 31)) &&& 1)) (v2 + 1) hm H locs hw ls (lv_sub hl [2, 1, 0] rfl)
  unfold m_X6_count at hm
  revert hw
  suffices K : ∀ (H : Heap) (locs : List Loc), WD D cy (Fr A G s.heap.size) A s.heap G M H locs → W p l e (headSpec (wm yX6_count cX6_count 3 (some .int)) ({ frames := 0, cells := 0, slots := 0, locals := 0 } : Room)).room s m ([.int x0] : List Value).toArray below meth c H locs 0 0 (MQ below (va_Qi (fun (r' : Int32) (u : Mem) => r' = z ∧ u = M) (Po D cy A G (Fr A G s.heap.size)) (Fr A G s.heap.size)) ([.int x0] : List Value).toArray s 0 0 (Fr A G s.heap.size)) (F0 m 0 ls []) from fun hw => K _ _ hw
  intro H locs hw
  refine lv_iconst (v := 0) hx hb dX6_count_0 (by decide) ?_
  refine lv_istore_n (lv' := [(1, .int 0), (0, .int x0)]) hx hb dX6_count_1 rfl hl (by decide) rfl (fun ls hl => ?_)
  refine lv_iconst (v := 0) hx hb dX6_count_2 (by decide) ?_
  refine lv_istore_n (lv' := [(2, .int 0), (1, .int 0), (0, .int x0)]) hx hb dX6_count_3 rfl hl (by decide) rfl (fun ls hl => ?_)
  exact J4 fuel 0 0 hm H locs hw ls (lv_sub hl [2, 1, 0] rfl)
set_option maxHeartbeats 4000000 in
set_option maxRecDepth 100000 in
theorem c_X6_isFine (l : Launch) {D : va_G} {cy : Nat → ClassId} {A : Nat → Nat} {G : Nat → Bool} {M : Mem} {sz : Nat} {a0 : Nat} (h0 : TT G 5 a0) (x1 : Int32) (x2 : Int32)  : Met l yX6_isFine (wm yX6_isFine cX6_isFine 3 (some .boolean)) ({ frames := 0, cells := 0, slots := 0, locals := 0 } : Room) (va_Pc [.ref (A a0), .int x1, .int x2] (Pr D cy A G M sz)) (va_Qi (fun (r' : Int32) (u : Mem) => r' = (m_X6_isFine a0 x1 x2 M).1 ∧ u = (m_X6_isFine a0 x1 x2 M).2) (Po D cy A G (Fr A G sz)) (Fr A G sz))  0 0 (Fr A G sz) := by
  refine ofB (Qc := fun sz => va_Qi (fun (r' : Int32) (u : Mem) => r' = (m_X6_isFine a0 x1 x2 M).1 ∧ u = (m_X6_isFine a0 x1 x2 M).2) (Po D cy A G (Fr A G sz)) (Fr A G sz)) (by decide +kernel) (Nat.le_of_ble_eq_true rfl) ?_
  intro p e s m below meth c hx hb hr hts hown hlocks hml hmn hK hw ls hl
  have hl : lv_has ls 3 [(0, .ref (A a0)), (1, .int x1), (2, .int x2)] := hl
  generalize hm : m_X6_isFine a0 x1 x2 M = z
  have J18 : ∀  (u0 : Nat) (u1 : Int32) (M : Mem) (hu0 : TT G 5 u0), m_X6_isFine_b18 a0 x1 x2 u0 u1 M = z → ∀ (H : Heap) (locs : List Loc), WD D cy (Fr A G s.heap.size) A s.heap G M H locs → ∀ ls : Array Slot, lv_has ls 3 [(0, .ref (A a0))] → W p l e (headSpec (wm yX6_isFine cX6_isFine 3 (some .boolean)) ({ frames := 0, cells := 0, slots := 0, locals := 0 } : Room)).room s m ([.ref (A a0), .int x1, .int x2] : List Value).toArray below meth c H locs 0 0 (MQ below (va_Qi (fun (r' : Int32) (u : Mem) => r' = z.1 ∧ u = z.2) (Po D cy A G (Fr A G s.heap.size)) (Fr A G s.heap.size)) ([.ref (A a0), .int x1, .int x2] : List Value).toArray s 0 0 (Fr A G s.heap.size)) (F0 m 18 ls [.int u1, .ref (A u0)]) := by
    intro u0 u1 M hu0 hm H locs hw ls hl
    unfold m_X6_isFine_b18 at hm
    refine p5 hx hb hts hown hK hw hu0 3 (by decide) k_fl_RX6_20 (fun _ h => h) dX6_isFine_18 (fun H locs hw => ?_)
    refine lv_aload_n hx hb dX6_isFine_21 rfl (lv_at hl 0 rfl) ?_
    refine g5 hx hb hts hown hK hw h0 3 (by decide) (.int (gF (sF u0 3 u1 M) a0 3)) rfl k_fl_RX6_20 (fun _ h => h) dX6_isFine_22 ?_
    refine lv_if_ne (tgt := 32) hx hb dX6_isFine_25 (by decide) (fun hq3 => ?_) (fun hq3 => ?_)
    · have hm := (if_neg hq3).symm.trans hm
      refine lv_iconst (v := 0) hx hb dX6_isFine_32 (by decide) ?_
      cases hm
      exact eZ (show zb 0 by decide) hx hb hr hlocks hK hw dX6_isFine_33
    · have hm := (if_pos hq3).symm.trans hm
      refine lv_iconst (v := 1) hx hb dX6_isFine_28 (by decide) ?_
      refine lv_goto (tgt := 33) hx hb dX6_isFine_29 (by decide) ?_
      cases hm
      exact eZ (show zb 1 by decide) hx hb hr hlocks hK hw dX6_isFine_33
  unfold m_X6_isFine at hm
  revert hw
  suffices K : ∀ (H : Heap) (locs : List Loc), WD D cy (Fr A G s.heap.size) A s.heap G M H locs → W p l e (headSpec (wm yX6_isFine cX6_isFine 3 (some .boolean)) ({ frames := 0, cells := 0, slots := 0, locals := 0 } : Room)).room s m ([.ref (A a0), .int x1, .int x2] : List Value).toArray below meth c H locs 0 0 (MQ below (va_Qi (fun (r' : Int32) (u : Mem) => r' = z.1 ∧ u = z.2) (Po D cy A G (Fr A G s.heap.size)) (Fr A G s.heap.size)) ([.ref (A a0), .int x1, .int x2] : List Value).toArray s 0 0 (Fr A G s.heap.size)) (F0 m 0 ls []) from fun hw => K _ _ hw
  intro H locs hw
  refine lv_aload_n hx hb dX6_isFine_0 rfl (lv_at hl 0 rfl) ?_
  refine lv_iload_n hx hb dX6_isFine_1 rfl (lv_at hl 1 rfl) ?_
  refine lv_if_ne (tgt := 9) hx hb dX6_isFine_2 (by decide) (fun hq1 => ?_) (fun hq1 => ?_)
  · have hm := (if_neg hq1).symm.trans hm
    refine lv_iload_n hx hb dX6_isFine_9 rfl (lv_at hl 2 rfl) ?_
    refine lv_if_ne (tgt := 17) hx hb dX6_isFine_10 (by decide) (fun hq2 => ?_) (fun hq2 => ?_)
    · have hm := (if_neg hq2).symm.trans hm
      refine lv_iconst (v := 0) hx hb dX6_isFine_17 (by decide) ?_
      exact J18 a0 0 M h0 hm H locs hw ls (lv_sub hl [0] rfl)
    · have hm := (if_pos hq2).symm.trans hm
      refine lv_iconst (v := 2) hx hb dX6_isFine_13 (by decide) ?_
      refine lv_goto (tgt := 18) hx hb dX6_isFine_14 (by decide) ?_
      exact J18 a0 2 M h0 hm H locs hw ls (lv_sub hl [0] rfl)
  · have hm := (if_pos hq1).symm.trans hm
    refine lv_iconst (v := 1) hx hb dX6_isFine_5 (by decide) ?_
    refine lv_goto (tgt := 18) hx hb dX6_isFine_6 (by decide) ?_
    exact J18 a0 1 M h0 hm H locs hw ls (lv_sub hl [0] rfl)
set_option maxHeartbeats 4000000 in
set_option maxRecDepth 100000 in
theorem c_X6_note (l : Launch) {D : va_G} {cy : Nat → ClassId} {A : Nat → Nat} {G : Nat → Bool} {M : Mem} {sz : Nat} {a0 : Nat} (h0 : TT G 5 a0)  {z : Mem} (hm : m_X6_note a0 M = some z) : Met l yX6_note (wm yX6_note cX6_note 2 none) ({ frames := 0, cells := 0, slots := 0, locals := 0 } : Room) (va_Pc [.ref (A a0)] (Pr D cy A G M sz)) (va_Qv (fun (u : Mem) => u = z) (Po D cy A G (Fr A G sz)) (Fr A G sz))  0 0 (Fr A G sz) := by
  refine ofB (Qc := fun sz => va_Qv (fun (u : Mem) => u = z) (Po D cy A G (Fr A G sz)) (Fr A G sz)) (by decide +kernel) (Nat.le_of_ble_eq_true rfl) ?_
  intro p e s m below meth c hx hb hr hts hown hlocks hml hmn hK hw ls hl
  have hl : lv_has ls 2 [(0, .ref (A a0))] := hl
  have J51 : ∀  (n : Nat) (v1 : Int32) (M : Mem), m_X6_note_L51 a0 n v1 M = some z → ∀ (H : Heap) (locs : List Loc), WD D cy (Fr A G s.heap.size) A s.heap G M H locs → ∀ ls : Array Slot, lv_has ls 2 [(0, .ref (A a0)), (1, .int v1)] → W p l e (headSpec (wm yX6_note cX6_note 2 none) ({ frames := 0, cells := 0, slots := 0, locals := 0 } : Room)).room s m ([.ref (A a0)] : List Value).toArray below meth c H locs 0 0 (MQ below (va_Qv (fun (u : Mem) => u = z) (Po D cy A G (Fr A G s.heap.size)) (Fr A G s.heap.size)) ([.ref (A a0)] : List Value).toArray s 0 0 (Fr A G s.heap.size)) (F0 m 51 ls []) := by
    intro n
    induction n with
    | zero =>
      intro v1 M hm
      cases (show (none : Option Mem) = some z from hm)
    | succ n ih =>
      intro v1 M hm H locs hw ls hl
      have hm := (m_X6_note_L51_s a0 n v1 M).symm.trans hm
      refine lv_iload_n hx hb dX6_note_51 rfl (lv_at hl 1 rfl) ?_
      refine lv_sipush (v := 3463) hx hb dX6_note_52 (by decide) ?_
      refine lv_icmp_ge (tgt := 85) hx hb dX6_note_55 (by decide) (fun hq2 => ?_) (fun hq2 => ?_)
      · have hm := (if_pos hq2).symm.trans hm
        refine lv_aload_n hx hb dX6_note_85 rfl (lv_at hl 0 rfl) ?_
        refine lv_dup hx hb dX6_note_86 rfl ?_
        refine g5 hx hb hts hown hK hw h0 2 (by decide) (.int (gF M a0 2)) rfl k_fl_RX6_16 (fun _ h => h) dX6_note_87 ?_
        refine lv_iconst (v := 1) hx hb dX6_note_90 (by decide) ?_
        refine lv_iadd hx hb dX6_note_91 ?_
        refine p5 hx hb hts hown hK hw h0 2 (by decide) k_fl_RX6_16 (fun _ h => h) dX6_note_92 (fun H locs hw => ?_)
        cases hm
        exact eV hx hb hr hlocks hK hw dX6_note_95
      · have hm := (if_neg hq2).symm.trans hm
        refine lv_aload_n hx hb dX6_note_58 rfl (lv_at hl 0 rfl) ?_
        refine g5 hx hb hts hown hK hw h0 1 (by decide) (.ref (A 5)) rfl k_fl_RX6_13 (fun _ h => h) dX6_note_59 ?_
        have hp3 := mo_p h0
        refine lv_sipush (v := 3463) hx hb dX6_note_62 (by decide) ?_
        refine lv_aload_n hx hb dX6_note_65 rfl (lv_at hl 0 rfl) ?_
        refine g5 hx hb hts hown hK hw h0 2 (by decide) (.int (gF M a0 2)) rfl k_fl_RX6_16 (fun _ h => h) dX6_note_66 ?_
        refine lv_imul hx hb dX6_note_69 ?_
        refine lv_iload_n hx hb dX6_note_70 rfl (lv_at hl 1 rfl) ?_
        refine lv_iadd hx hb dX6_note_71 ?_
        refine lv_aload_n hx hb dX6_note_72 rfl (lv_at hl 0 rfl) ?_
        refine g5 hx hb hts hown hK hw h0 0 (by decide) (.ref (A 4)) rfl k_fl_RX6_7 (fun _ h => h) dX6_note_73 ?_
        have hp4 := mo_s h0
        refine lv_iload_n hx hb dX6_note_76 rfl (lv_at hl 1 rfl) ?_
        obtain ⟨hi5, hm⟩ := ck_some hm
        refine gI hx hb hK hw hp4 hi5 dX6_note_77 ?_
        obtain ⟨hi6, hm⟩ := ck_some hm
        refine pI hx hb hK hw hp3 hi6 dX6_note_78 (fun H locs hw => ?_)
        refine lv_iinc (v := (v1 + 1)) (lv' := [(1, .int (v1 + 1)), (0, .ref (A a0))]) hx hb dX6_note_79 hl (k := 1) rfl rfl (by decide) rfl (fun ls hl => ?_)
        refine lv_goto (tgt := 51) hx hb dX6_note_82 (by decide) ?_
        exact ih (v1 + 1) (aI 5 ((3463 * (gF M a0 2)) + v1) (gR M 4 (cl v1)) M) hm H locs hw ls (lv_sub hl [1, 0] rfl)
  have J10 : ∀  (n : Nat) (v1 : Int32) (M : Mem), m_X6_note_L10 a0 n v1 M = some z → ∀ (H : Heap) (locs : List Loc), WD D cy (Fr A G s.heap.size) A s.heap G M H locs → ∀ ls : Array Slot, lv_has ls 2 [(0, .ref (A a0)), (1, .int v1)] → W p l e (headSpec (wm yX6_note cX6_note 2 none) ({ frames := 0, cells := 0, slots := 0, locals := 0 } : Room)).room s m ([.ref (A a0)] : List Value).toArray below meth c H locs 0 0 (MQ below (va_Qv (fun (u : Mem) => u = z) (Po D cy A G (Fr A G s.heap.size)) (Fr A G s.heap.size)) ([.ref (A a0)] : List Value).toArray s 0 0 (Fr A G s.heap.size)) (F0 m 10 ls []) := by
    intro n
    induction n with
    | zero =>
      intro v1 M hm
      cases (show (none : Option Mem) = some z from hm)
    | succ n ih =>
      intro v1 M hm H locs hw ls hl
      have hm := (m_X6_note_L10_s a0 n v1 M).symm.trans hm
      refine lv_iload_n hx hb dX6_note_10 rfl (lv_at hl 1 rfl) ?_
      refine lv_sipush (v := 10389) hx hb dX6_note_11 (by decide) ?_
      refine lv_icmp_ge (tgt := 39) hx hb dX6_note_14 (by decide) (fun hq7 => ?_) (fun hq7 => ?_)
      · have hm := (if_pos hq7).symm.trans hm
        refine lv_aload_n hx hb dX6_note_39 rfl (lv_at hl 0 rfl) ?_
        refine lv_dup hx hb dX6_note_40 rfl ?_
        refine g5 hx hb hts hown hK hw h0 2 (by decide) (.int (gF M a0 2)) rfl k_fl_RX6_16 (fun _ h => h) dX6_note_41 ?_
        refine lv_iconst (v := 1) hx hb dX6_note_44 (by decide) ?_
        refine lv_isub hx hb dX6_note_45 ?_
        refine p5 hx hb hts hown hK hw h0 2 (by decide) k_fl_RX6_16 (fun _ h => h) dX6_note_46 (fun H locs hw => ?_)
        refine lv_iconst (v := 0) hx hb dX6_note_49 (by decide) ?_
        refine lv_istore_n (lv' := [(1, .int 0), (0, .ref (A a0))]) hx hb dX6_note_50 rfl hl (by decide) rfl (fun ls hl => ?_)
        exact J51 fuel 0 (sF a0 2 ((gF M a0 2) - 1) M) hm H locs hw ls (lv_sub hl [1, 0] rfl)
      · have hm := (if_neg hq7).symm.trans hm
        refine lv_aload_n hx hb dX6_note_17 rfl (lv_at hl 0 rfl) ?_
        refine g5 hx hb hts hown hK hw h0 1 (by decide) (.ref (A 5)) rfl k_fl_RX6_13 (fun _ h => h) dX6_note_18 ?_
        have hp8 := mo_p h0
        refine lv_iload_n hx hb dX6_note_21 rfl (lv_at hl 1 rfl) ?_
        refine lv_aload_n hx hb dX6_note_22 rfl (lv_at hl 0 rfl) ?_
        refine g5 hx hb hts hown hK hw h0 1 (by decide) (.ref (A 5)) rfl k_fl_RX6_13 (fun _ h => h) dX6_note_23 ?_
        have hp9 := mo_p h0
        refine lv_iload_n hx hb dX6_note_26 rfl (lv_at hl 1 rfl) ?_
        refine lv_sipush (v := 3463) hx hb dX6_note_27 (by decide) ?_
        refine lv_iadd hx hb dX6_note_30 ?_
        obtain ⟨hi10, hm⟩ := ck_some hm
        refine gI hx hb hK hw hp9 hi10 dX6_note_31 ?_
        obtain ⟨hi11, hm⟩ := ck_some hm
        refine pI hx hb hK hw hp8 hi11 dX6_note_32 (fun H locs hw => ?_)
        refine lv_iinc (v := (v1 + 1)) (lv' := [(1, .int (v1 + 1)), (0, .ref (A a0))]) hx hb dX6_note_33 hl (k := 1) rfl rfl (by decide) rfl (fun ls hl => ?_)
        refine lv_goto (tgt := 10) hx hb dX6_note_36 (by decide) ?_
        exact ih (v1 + 1) (aI 5 v1 (gR M 5 (cl (v1 + 3463))) M) hm H locs hw ls (lv_sub hl [1, 0] rfl)
  unfold m_X6_note at hm
  revert hw
  suffices K : ∀ (H : Heap) (locs : List Loc), WD D cy (Fr A G s.heap.size) A s.heap G M H locs → W p l e (headSpec (wm yX6_note cX6_note 2 none) ({ frames := 0, cells := 0, slots := 0, locals := 0 } : Room)).room s m ([.ref (A a0)] : List Value).toArray below meth c H locs 0 0 (MQ below (va_Qv (fun (u : Mem) => u = z) (Po D cy A G (Fr A G s.heap.size)) (Fr A G s.heap.size)) ([.ref (A a0)] : List Value).toArray s 0 0 (Fr A G s.heap.size)) (F0 m 0 ls []) from fun hw => K _ _ hw
  intro H locs hw
  refine lv_aload_n hx hb dX6_note_0 rfl (lv_at hl 0 rfl) ?_
  refine g5 hx hb hts hown hK hw h0 2 (by decide) (.int (gF M a0 2)) rfl k_fl_RX6_16 (fun _ h => h) dX6_note_1 ?_
  refine lv_iconst (v := 4) hx hb dX6_note_4 (by decide) ?_
  refine lv_icmp_ne (tgt := 49) hx hb dX6_note_5 (by decide) (fun hq1 => ?_) (fun hq1 => ?_)
  · have hm := (if_neg hq1).symm.trans hm
    refine lv_iconst (v := 0) hx hb dX6_note_49 (by decide) ?_
    refine lv_istore_n (lv' := [(1, .int 0), (0, .ref (A a0))]) hx hb dX6_note_50 rfl hl (by decide) rfl (fun ls hl => ?_)
    exact J51 fuel 0 M hm H locs hw ls (lv_sub hl [1, 0] rfl)
  · have hm := (if_pos hq1).symm.trans hm
    refine lv_iconst (v := 0) hx hb dX6_note_8 (by decide) ?_
    refine lv_istore_n (lv' := [(1, .int 0), (0, .ref (A a0))]) hx hb dX6_note_9 rfl hl (by decide) rfl (fun ls hl => ?_)
    exact J10 fuel 0 M hm H locs hw ls (lv_sub hl [1, 0] rfl)
set_option maxHeartbeats 4000000 in
set_option maxRecDepth 100000 in
theorem c_X6_isNode (l : Launch) {D : va_G} {cy : Nat → ClassId} {A : Nat → Nat} {G : Nat → Bool} {M : Mem} {sz : Nat} {a0 : Nat} {x1 : Int32} (h0 : TT G 5 a0)  {z : Int32} (hm : m_X6_isNode a0 x1 M = some z) : Met l yX6_isNode (wm yX6_isNode cX6_isNode 2 (some .boolean)) ({ frames := 1, cells := 0, slots := 0, locals := 22 } : Room) (va_Pc [.ref (A a0), .int x1] (Pr D cy A G M sz)) (va_Qi (fun (r' : Int32) (u : Mem) => r' = z ∧ u = M) (Po D cy A G (Fr A G sz)) (Fr A G sz))  0 0 (Fr A G sz) := by
  refine ofB (Qc := fun sz => va_Qi (fun (r' : Int32) (u : Mem) => r' = z ∧ u = M) (Po D cy A G (Fr A G sz)) (Fr A G sz)) (by decide +kernel) (Nat.le_of_ble_eq_true rfl) ?_
  intro p e s m below meth c hx hb hr hts hown hlocks hml hmn hK hw ls hl
  have hl : lv_has ls 2 [(0, .ref (A a0)), (1, .int x1)] := hl
  unfold m_X6_isNode at hm
  revert hw
  suffices K : ∀ (H : Heap) (locs : List Loc), WD D cy (Fr A G s.heap.size) A s.heap G M H locs → W p l e (headSpec (wm yX6_isNode cX6_isNode 2 (some .boolean)) ({ frames := 1, cells := 0, slots := 0, locals := 22 } : Room)).room s m ([.ref (A a0), .int x1] : List Value).toArray below meth c H locs 0 0 (MQ below (va_Qi (fun (r' : Int32) (u : Mem) => r' = z ∧ u = M) (Po D cy A G (Fr A G s.heap.size)) (Fr A G s.heap.size)) ([.ref (A a0), .int x1] : List Value).toArray s 0 0 (Fr A G s.heap.size)) (F0 m 0 ls []) from fun hw => K _ _ hw
  intro H locs hw
  refine lv_iload_n hx hb dX6_isNode_0 rfl (lv_at hl 1 rfl) ?_
  refine lv_iconst (v := 0) hx hb dX6_isNode_1 (by decide) ?_
  refine lv_aload_n hx hb dX6_isNode_2 rfl (lv_at hl 0 rfl) ?_
  refine g5 hx hb hts hown hK hw h0 0 (by decide) (.ref (A 4)) rfl k_fl_RX6_7 (fun _ h => h) dX6_isNode_3 ?_
  have hp1 := mo_s h0
  refine lv_iconst (v := 0) hx hb dX6_isNode_6 (by decide) ?_
  obtain ⟨hi2, hm⟩ := ck_some hm
  refine gI hx hb hK hw hp1 hi2 dX6_isNode_7 ?_
  refine lv_iconst (v := 1) hx hb dX6_isNode_8 (by decide) ?_
  refine lv_isub hx hb dX6_isNode_9 ?_
  refine ki hw Fr_hi (rS hx hb hml hts hown hK hw (c_X6_in l x1 0 ((gR M 4 (cl 0)) - 1)) (mkS 3 hts k_ml_RX6_23 k_st_yX6_in k_in_RX6 k_co_yX6_in hd_X6_in ⟨Nat.le_of_ble_eq_true rfl, Nat.le_of_ble_eq_true rfl⟩) rfl hl.1 rfl (Nat.le_of_ble_eq_true rfl) dX6_isNode_10 ⟨Nat.le_of_ble_eq_true rfl, Nat.le_of_ble_eq_true rfl⟩) (fun H locs hw => ?_)
  obtain ⟨hz3, hm⟩ := ck_some hm
  cases hm
  exact eZ hz3 hx hb hr hlocks hK hw dX6_isNode_13
set_option maxHeartbeats 4000000 in
set_option maxRecDepth 100000 in
theorem c_X6_isLedger (l : Launch) {D : va_G} {cy : Nat → ClassId} {A : Nat → Nat} {G : Nat → Bool} {M : Mem} {sz : Nat} {a0 : Nat} {x1 : Int32} (h0 : TT G 5 a0)  {z : Int32} (hm : m_X6_isLedger a0 x1 M = some z) : Met l yX6_isLedger (wm yX6_isLedger cX6_isLedger 2 (some .boolean)) ({ frames := 1, cells := 0, slots := 0, locals := 22 } : Room) (va_Pc [.ref (A a0), .int x1] (Pr D cy A G M sz)) (va_Qi (fun (r' : Int32) (u : Mem) => r' = z ∧ u = M) (Po D cy A G (Fr A G sz)) (Fr A G sz))  0 0 (Fr A G sz) := by
  refine ofB (Qc := fun sz => va_Qi (fun (r' : Int32) (u : Mem) => r' = z ∧ u = M) (Po D cy A G (Fr A G sz)) (Fr A G sz)) (by decide +kernel) (Nat.le_of_ble_eq_true rfl) ?_
  intro p e s m below meth c hx hb hr hts hown hlocks hml hmn hK hw ls hl
  have hl : lv_has ls 2 [(0, .ref (A a0)), (1, .int x1)] := hl
  unfold m_X6_isLedger at hm
  revert hw
  suffices K : ∀ (H : Heap) (locs : List Loc), WD D cy (Fr A G s.heap.size) A s.heap G M H locs → W p l e (headSpec (wm yX6_isLedger cX6_isLedger 2 (some .boolean)) ({ frames := 1, cells := 0, slots := 0, locals := 22 } : Room)).room s m ([.ref (A a0), .int x1] : List Value).toArray below meth c H locs 0 0 (MQ below (va_Qi (fun (r' : Int32) (u : Mem) => r' = z ∧ u = M) (Po D cy A G (Fr A G s.heap.size)) (Fr A G s.heap.size)) ([.ref (A a0), .int x1] : List Value).toArray s 0 0 (Fr A G s.heap.size)) (F0 m 0 ls []) from fun hw => K _ _ hw
  intro H locs hw
  refine lv_iload_n hx hb dX6_isLedger_0 rfl (lv_at hl 1 rfl) ?_
  refine lv_iconst (v := 0) hx hb dX6_isLedger_1 (by decide) ?_
  refine lv_aload_n hx hb dX6_isLedger_2 rfl (lv_at hl 0 rfl) ?_
  refine g5 hx hb hts hown hK hw h0 0 (by decide) (.ref (A 4)) rfl k_fl_RX6_7 (fun _ h => h) dX6_isLedger_3 ?_
  have hp1 := mo_s h0
  refine lv_iconst (v := 1) hx hb dX6_isLedger_6 (by decide) ?_
  obtain ⟨hi2, hm⟩ := ck_some hm
  refine gI hx hb hK hw hp1 hi2 dX6_isLedger_7 ?_
  refine lv_iconst (v := 1) hx hb dX6_isLedger_8 (by decide) ?_
  refine lv_isub hx hb dX6_isLedger_9 ?_
  refine ki hw Fr_hi (rS hx hb hml hts hown hK hw (c_X6_in l x1 0 ((gR M 4 (cl 1)) - 1)) (mkS 3 hts k_ml_RX6_23 k_st_yX6_in k_in_RX6 k_co_yX6_in hd_X6_in ⟨Nat.le_of_ble_eq_true rfl, Nat.le_of_ble_eq_true rfl⟩) rfl hl.1 rfl (Nat.le_of_ble_eq_true rfl) dX6_isLedger_10 ⟨Nat.le_of_ble_eq_true rfl, Nat.le_of_ble_eq_true rfl⟩) (fun H locs hw => ?_)
  obtain ⟨hz3, hm⟩ := ck_some hm
  cases hm
  exact eZ hz3 hx hb hr hlocks hK hw dX6_isLedger_13
set_option maxHeartbeats 4000000 in
set_option maxRecDepth 100000 in
theorem c_X6_isUp (l : Launch) {D : va_G} {cy : Nat → ClassId} {A : Nat → Nat} {G : Nat → Bool} {M : Mem} {sz : Nat} {a0 : Nat} {x1 : Int32} (h0 : TT G 5 a0)  {z : Int32} (hm : m_X6_isUp a0 x1 M = some z) : Met l yX6_isUp (wm yX6_isUp cX6_isUp 2 (some .boolean)) ({ frames := 0, cells := 0, slots := 0, locals := 0 } : Room) (va_Pc [.ref (A a0), .int x1] (Pr D cy A G M sz)) (va_Qi (fun (r' : Int32) (u : Mem) => r' = z ∧ u = M) (Po D cy A G (Fr A G sz)) (Fr A G sz))  0 0 (Fr A G sz) := by
  refine ofB (Qc := fun sz => va_Qi (fun (r' : Int32) (u : Mem) => r' = z ∧ u = M) (Po D cy A G (Fr A G sz)) (Fr A G sz)) (by decide +kernel) (Nat.le_of_ble_eq_true rfl) ?_
  intro p e s m below meth c hx hb hr hts hown hlocks hml hmn hK hw ls hl
  have hl : lv_has ls 2 [(0, .ref (A a0)), (1, .int x1)] := hl
  unfold m_X6_isUp at hm
  revert hw
  suffices K : ∀ (H : Heap) (locs : List Loc), WD D cy (Fr A G s.heap.size) A s.heap G M H locs → W p l e (headSpec (wm yX6_isUp cX6_isUp 2 (some .boolean)) ({ frames := 0, cells := 0, slots := 0, locals := 0 } : Room)).room s m ([.ref (A a0), .int x1] : List Value).toArray below meth c H locs 0 0 (MQ below (va_Qi (fun (r' : Int32) (u : Mem) => r' = z ∧ u = M) (Po D cy A G (Fr A G s.heap.size)) (Fr A G s.heap.size)) ([.ref (A a0), .int x1] : List Value).toArray s 0 0 (Fr A G s.heap.size)) (F0 m 0 ls []) from fun hw => K _ _ hw
  intro H locs hw
  refine lv_aload_n hx hb dX6_isUp_0 rfl (lv_at hl 0 rfl) ?_
  refine g5 hx hb hts hown hK hw h0 0 (by decide) (.ref (A 4)) rfl k_fl_RX6_7 (fun _ h => h) dX6_isUp_1 ?_
  have hp1 := mo_s h0
  refine lv_iconst (v := 3) hx hb dX6_isUp_4 (by decide) ?_
  refine lv_iload_n hx hb dX6_isUp_5 rfl (lv_at hl 1 rfl) ?_
  refine lv_iadd hx hb dX6_isUp_6 ?_
  obtain ⟨hi2, hm⟩ := ck_some hm
  refine gI hx hb hK hw hp1 hi2 dX6_isUp_7 ?_
  refine lv_iconst (v := 1) hx hb dX6_isUp_8 (by decide) ?_
  refine lv_icmp_ne (tgt := 16) hx hb dX6_isUp_9 (by decide) (fun hq3 => ?_) (fun hq3 => ?_)
  · have hm := (if_neg hq3).symm.trans hm
    refine lv_iconst (v := 0) hx hb dX6_isUp_16 (by decide) ?_
    cases hm
    exact eZ (show zb 0 by decide) hx hb hr hlocks hK hw dX6_isUp_17
  · have hm := (if_pos hq3).symm.trans hm
    refine lv_iconst (v := 1) hx hb dX6_isUp_12 (by decide) ?_
    refine lv_goto (tgt := 17) hx hb dX6_isUp_13 (by decide) ?_
    cases hm
    exact eZ (show zb 1 by decide) hx hb hr hlocks hK hw dX6_isUp_17
set_option maxHeartbeats 4000000 in
set_option maxRecDepth 100000 in
theorem c_X6_of (l : Launch) {D : va_G} {cy : Nat → ClassId} {A : Nat → Nat} {G : Nat → Bool} {M : Mem} {sz : Nat} {a0 : Nat} {x1 : Int32} {x2 : Int32} (h0 : TT G 5 a0)  {z : Int32} (hm : m_X6_of a0 x1 x2 M = some z) : Met l yX6_of (wm yX6_of cX6_of 3 (some .int)) ({ frames := 0, cells := 0, slots := 0, locals := 0 } : Room) (va_Pc [.ref (A a0), .int x1, .int x2] (Pr D cy A G M sz)) (va_Qi (fun (r' : Int32) (u : Mem) => r' = z ∧ u = M) (Po D cy A G (Fr A G sz)) (Fr A G sz))  0 0 (Fr A G sz) := by
  refine ofB (Qc := fun sz => va_Qi (fun (r' : Int32) (u : Mem) => r' = z ∧ u = M) (Po D cy A G (Fr A G sz)) (Fr A G sz)) (by decide +kernel) (Nat.le_of_ble_eq_true rfl) ?_
  intro p e s m below meth c hx hb hr hts hown hlocks hml hmn hK hw ls hl
  have hl : lv_has ls 3 [(0, .ref (A a0)), (1, .int x1), (2, .int x2)] := hl
  unfold m_X6_of at hm
  revert hw
  suffices K : ∀ (H : Heap) (locs : List Loc), WD D cy (Fr A G s.heap.size) A s.heap G M H locs → W p l e (headSpec (wm yX6_of cX6_of 3 (some .int)) ({ frames := 0, cells := 0, slots := 0, locals := 0 } : Room)).room s m ([.ref (A a0), .int x1, .int x2] : List Value).toArray below meth c H locs 0 0 (MQ below (va_Qi (fun (r' : Int32) (u : Mem) => r' = z ∧ u = M) (Po D cy A G (Fr A G s.heap.size)) (Fr A G s.heap.size)) ([.ref (A a0), .int x1, .int x2] : List Value).toArray s 0 0 (Fr A G s.heap.size)) (F0 m 0 ls []) from fun hw => K _ _ hw
  intro H locs hw
  refine lv_aload_n hx hb dX6_of_0 rfl (lv_at hl 0 rfl) ?_
  refine g5 hx hb hts hown hK hw h0 0 (by decide) (.ref (A 4)) rfl k_fl_RX6_7 (fun _ h => h) dX6_of_1 ?_
  have hp1 := mo_s h0
  refine lv_sipush (v := 2131) hx hb dX6_of_4 (by decide) ?_
  refine lv_sipush (v := 333) hx hb dX6_of_7 (by decide) ?_
  refine lv_iload_n hx hb dX6_of_10 rfl (lv_at hl 1 rfl) ?_
  refine lv_imul hx hb dX6_of_11 ?_
  refine lv_iadd hx hb dX6_of_12 ?_
  refine lv_iload_n hx hb dX6_of_13 rfl (lv_at hl 2 rfl) ?_
  refine lv_iadd hx hb dX6_of_14 ?_
  obtain ⟨hi2, hm⟩ := ck_some hm
  refine gI hx hb hK hw hp1 hi2 dX6_of_15 ?_
  cases hm
  exact eI hx hb hr hlocks hK hw dX6_of_16
set_option maxHeartbeats 4000000 in
set_option maxRecDepth 100000 in
theorem c_X6_set (l : Launch) {D : va_G} {cy : Nat → ClassId} {A : Nat → Nat} {G : Nat → Bool} {M : Mem} {sz : Nat} {a0 : Nat} {x1 : Int32} {x2 : Int32} {x3 : Int32} (h0 : TT G 5 a0)  {z : Mem} (hm : m_X6_set a0 x1 x2 x3 M = some z) : Met l yX6_set (wm yX6_set cX6_set 4 none) ({ frames := 0, cells := 0, slots := 0, locals := 0 } : Room) (va_Pc [.ref (A a0), .int x1, .int x2, .int x3] (Pr D cy A G M sz)) (va_Qv (fun (u : Mem) => u = z) (Po D cy A G (Fr A G sz)) (Fr A G sz))  0 0 (Fr A G sz) := by
  refine ofB (Qc := fun sz => va_Qv (fun (u : Mem) => u = z) (Po D cy A G (Fr A G sz)) (Fr A G sz)) (by decide +kernel) (Nat.le_of_ble_eq_true rfl) ?_
  intro p e s m below meth c hx hb hr hts hown hlocks hml hmn hK hw ls hl
  have hl : lv_has ls 4 [(0, .ref (A a0)), (1, .int x1), (2, .int x2), (3, .int x3)] := hl
  unfold m_X6_set at hm
  revert hw
  suffices K : ∀ (H : Heap) (locs : List Loc), WD D cy (Fr A G s.heap.size) A s.heap G M H locs → W p l e (headSpec (wm yX6_set cX6_set 4 none) ({ frames := 0, cells := 0, slots := 0, locals := 0 } : Room)).room s m ([.ref (A a0), .int x1, .int x2, .int x3] : List Value).toArray below meth c H locs 0 0 (MQ below (va_Qv (fun (u : Mem) => u = z) (Po D cy A G (Fr A G s.heap.size)) (Fr A G s.heap.size)) ([.ref (A a0), .int x1, .int x2, .int x3] : List Value).toArray s 0 0 (Fr A G s.heap.size)) (F0 m 0 ls []) from fun hw => K _ _ hw
  intro H locs hw
  refine lv_aload_n hx hb dX6_set_0 rfl (lv_at hl 0 rfl) ?_
  refine g5 hx hb hts hown hK hw h0 0 (by decide) (.ref (A 4)) rfl k_fl_RX6_7 (fun _ h => h) dX6_set_1 ?_
  have hp1 := mo_s h0
  refine lv_sipush (v := 2131) hx hb dX6_set_4 (by decide) ?_
  refine lv_sipush (v := 333) hx hb dX6_set_7 (by decide) ?_
  refine lv_iload_n hx hb dX6_set_10 rfl (lv_at hl 1 rfl) ?_
  refine lv_imul hx hb dX6_set_11 ?_
  refine lv_iadd hx hb dX6_set_12 ?_
  refine lv_iload_n hx hb dX6_set_13 rfl (lv_at hl 2 rfl) ?_
  refine lv_iadd hx hb dX6_set_14 ?_
  refine lv_iload_n hx hb dX6_set_15 rfl (lv_at hl 3 rfl) ?_
  obtain ⟨hi2, hm⟩ := ck_some hm
  refine pI hx hb hK hw hp1 hi2 dX6_set_16 (fun H locs hw => ?_)
  cases hm
  exact eV hx hb hr hlocks hK hw dX6_set_17
set_option maxHeartbeats 4000000 in
set_option maxRecDepth 100000 in
theorem c_X6_storedAt (l : Launch) {D : va_G} {cy : Nat → ClassId} {A : Nat → Nat} {G : Nat → Bool} {M : Mem} {sz : Nat}   (x0 : Int32) (x1 : Int32) (x2 : Int32)  : Met l yX6_storedAt (wm yX6_storedAt cX6_storedAt 3 (some .int)) ({ frames := 0, cells := 0, slots := 0, locals := 0 } : Room) (va_Pc [.int x0, .int x1, .int x2] (Pr D cy A G M sz)) (va_Qi (fun (r' : Int32) (u : Mem) => r' = (m_X6_storedAt x0 x1 x2) ∧ u = M) (Po D cy A G (Fr A G sz)) (Fr A G sz))  0 0 (Fr A G sz) := by
  refine ofB (Qc := fun sz => va_Qi (fun (r' : Int32) (u : Mem) => r' = (m_X6_storedAt x0 x1 x2) ∧ u = M) (Po D cy A G (Fr A G sz)) (Fr A G sz)) (by decide +kernel) (Nat.le_of_ble_eq_true rfl) ?_
  intro p e s m below meth c hx hb hr hts hown hlocks hml hmn hK hw ls hl
  have hl : lv_has ls 3 [(0, .int x0), (1, .int x1), (2, .int x2)] := hl
  generalize hm : m_X6_storedAt x0 x1 x2 = z
  unfold m_X6_storedAt at hm
  revert hw
  suffices K : ∀ (H : Heap) (locs : List Loc), WD D cy (Fr A G s.heap.size) A s.heap G M H locs → W p l e (headSpec (wm yX6_storedAt cX6_storedAt 3 (some .int)) ({ frames := 0, cells := 0, slots := 0, locals := 0 } : Room)).room s m ([.int x0, .int x1, .int x2] : List Value).toArray below meth c H locs 0 0 (MQ below (va_Qi (fun (r' : Int32) (u : Mem) => r' = z ∧ u = M) (Po D cy A G (Fr A G s.heap.size)) (Fr A G s.heap.size)) ([.int x0, .int x1, .int x2] : List Value).toArray s 0 0 (Fr A G s.heap.size)) (F0 m 0 ls []) from fun hw => K _ _ hw
  intro H locs hw
  refine lv_sipush (v := 819) hx hb dX6_storedAt_0 (by decide) ?_
  refine lv_sipush (v := 160) hx hb dX6_storedAt_3 (by decide) ?_
  refine lv_iload_n hx hb dX6_storedAt_6 rfl (lv_at hl 0 rfl) ?_
  refine lv_imul hx hb dX6_storedAt_7 ?_
  refine lv_iadd hx hb dX6_storedAt_8 ?_
  refine lv_bipush (v := 40) hx hb dX6_storedAt_9 (by decide) ?_
  refine lv_iload_n hx hb dX6_storedAt_11 rfl (lv_at hl 1 rfl) ?_
  refine lv_imul hx hb dX6_storedAt_12 ?_
  refine lv_iadd hx hb dX6_storedAt_13 ?_
  refine lv_iload_n hx hb dX6_storedAt_14 rfl (lv_at hl 2 rfl) ?_
  refine lv_iadd hx hb dX6_storedAt_15 ?_
  cases hm
  exact eI hx hb hr hlocks hK hw dX6_storedAt_16
set_option maxHeartbeats 4000000 in
set_option maxRecDepth 100000 in
theorem c_X6_stores (l : Launch) {D : va_G} {cy : Nat → ClassId} {A : Nat → Nat} {G : Nat → Bool} {M : Mem} {sz : Nat} {a0 : Nat} {x1 : Int32} {x2 : Int32} {x3 : Int32} (h0 : TT G 5 a0)  {z : Int32} (hm : m_X6_stores a0 x1 x2 x3 M = some z) : Met l yX6_stores (wm yX6_stores cX6_stores 4 (some .boolean)) ({ frames := 1, cells := 0, slots := 0, locals := 22 } : Room) (va_Pc [.ref (A a0), .int x1, .int x2, .int x3] (Pr D cy A G M sz)) (va_Qi (fun (r' : Int32) (u : Mem) => r' = z ∧ u = M) (Po D cy A G (Fr A G sz)) (Fr A G sz))  0 0 (Fr A G sz) := by
  refine ofB (Qc := fun sz => va_Qi (fun (r' : Int32) (u : Mem) => r' = z ∧ u = M) (Po D cy A G (Fr A G sz)) (Fr A G sz)) (by decide +kernel) (Nat.le_of_ble_eq_true rfl) ?_
  intro p e s m below meth c hx hb hr hts hown hlocks hml hmn hK hw ls hl
  have hl : lv_has ls 4 [(0, .ref (A a0)), (1, .int x1), (2, .int x2), (3, .int x3)] := hl
  unfold m_X6_stores at hm
  revert hw
  suffices K : ∀ (H : Heap) (locs : List Loc), WD D cy (Fr A G s.heap.size) A s.heap G M H locs → W p l e (headSpec (wm yX6_stores cX6_stores 4 (some .boolean)) ({ frames := 1, cells := 0, slots := 0, locals := 22 } : Room)).room s m ([.ref (A a0), .int x1, .int x2, .int x3] : List Value).toArray below meth c H locs 0 0 (MQ below (va_Qi (fun (r' : Int32) (u : Mem) => r' = z ∧ u = M) (Po D cy A G (Fr A G s.heap.size)) (Fr A G s.heap.size)) ([.ref (A a0), .int x1, .int x2, .int x3] : List Value).toArray s 0 0 (Fr A G s.heap.size)) (F0 m 0 ls []) from fun hw => K _ _ hw
  intro H locs hw
  refine lv_aload_n hx hb dX6_stores_0 rfl (lv_at hl 0 rfl) ?_
  refine g5 hx hb hts hown hK hw h0 0 (by decide) (.ref (A 4)) rfl k_fl_RX6_7 (fun _ h => h) dX6_stores_1 ?_
  have hp1 := mo_s h0
  refine lv_iload_n hx hb dX6_stores_4 rfl (lv_at hl 1 rfl) ?_
  refine lv_iload_n hx hb dX6_stores_5 rfl (lv_at hl 2 rfl) ?_
  refine lv_iload_n hx hb dX6_stores_6 rfl (lv_at hl 3 rfl) ?_
  refine ki hw Fr_hi (rS hx hb hml hts hown hK hw (c_X6_storedAt l x1 x2 x3) (mkS 3 hts k_ml_RX6_27 k_st_yX6_storedAt k_in_RX6 k_co_yX6_storedAt hd_X6_storedAt ⟨Nat.le_of_ble_eq_true rfl, Nat.le_of_ble_eq_true rfl⟩) rfl hl.1 rfl (Nat.le_of_ble_eq_true rfl) dX6_stores_7 ⟨Nat.le_of_ble_eq_true rfl, Nat.le_of_ble_eq_true rfl⟩) (fun H locs hw => ?_)
  obtain ⟨hi2, hm⟩ := ck_some hm
  refine gI hx hb hK hw hp1 hi2 dX6_stores_10 ?_
  refine lv_if_eq (tgt := 18) hx hb dX6_stores_11 (by decide) (fun hq3 => ?_) (fun hq3 => ?_)
  · have hm := (if_pos hq3).symm.trans hm
    refine lv_iconst (v := 0) hx hb dX6_stores_18 (by decide) ?_
    cases hm
    exact eZ (show zb 0 by decide) hx hb hr hlocks hK hw dX6_stores_19
  · have hm := (if_neg hq3).symm.trans hm
    refine lv_iconst (v := 1) hx hb dX6_stores_14 (by decide) ?_
    refine lv_goto (tgt := 19) hx hb dX6_stores_15 (by decide) ?_
    cases hm
    exact eZ (show zb 1 by decide) hx hb hr hlocks hK hw dX6_stores_19
set_option maxHeartbeats 4000000 in
set_option maxRecDepth 100000 in
theorem c_X6_store (l : Launch) {D : va_G} {cy : Nat → ClassId} {A : Nat → Nat} {G : Nat → Bool} {M : Mem} {sz : Nat} {a0 : Nat} {x1 : Int32} {x2 : Int32} {x3 : Int32} {x4 : Int32} {x5 : Int32} (h0 : TT G 5 a0)  {z : Mem} (hm : m_X6_store a0 x1 x2 x3 x4 x5 M = some z) : Met l yX6_store (wm yX6_store cX6_store 6 none) ({ frames := 1, cells := 0, slots := 0, locals := 22 } : Room) (va_Pc [.ref (A a0), .int x1, .int x2, .int x3, .int x4, .int x5] (Pr D cy A G M sz)) (va_Qv (fun (u : Mem) => u = z) (Po D cy A G (Fr A G sz)) (Fr A G sz))  0 0 (Fr A G sz) := by
  refine ofB (Qc := fun sz => va_Qv (fun (u : Mem) => u = z) (Po D cy A G (Fr A G sz)) (Fr A G sz)) (by decide +kernel) (Nat.le_of_ble_eq_true rfl) ?_
  intro p e s m below meth c hx hb hr hts hown hlocks hml hmn hK hw ls hl
  have hl : lv_has ls 6 [(0, .ref (A a0)), (1, .int x1), (2, .int x2), (3, .int x3), (4, .int x4), (5, .int x5)] := hl
  unfold m_X6_store at hm
  revert hw
  suffices K : ∀ (H : Heap) (locs : List Loc), WD D cy (Fr A G s.heap.size) A s.heap G M H locs → W p l e (headSpec (wm yX6_store cX6_store 6 none) ({ frames := 1, cells := 0, slots := 0, locals := 22 } : Room)).room s m ([.ref (A a0), .int x1, .int x2, .int x3, .int x4, .int x5] : List Value).toArray below meth c H locs 0 0 (MQ below (va_Qv (fun (u : Mem) => u = z) (Po D cy A G (Fr A G s.heap.size)) (Fr A G s.heap.size)) ([.ref (A a0), .int x1, .int x2, .int x3, .int x4, .int x5] : List Value).toArray s 0 0 (Fr A G s.heap.size)) (F0 m 0 ls []) from fun hw => K _ _ hw
  intro H locs hw
  refine lv_aload_n hx hb dX6_store_0 rfl (lv_at hl 0 rfl) ?_
  refine g5 hx hb hts hown hK hw h0 0 (by decide) (.ref (A 4)) rfl k_fl_RX6_7 (fun _ h => h) dX6_store_1 ?_
  have hp1 := mo_s h0
  refine lv_iload_n hx hb dX6_store_4 rfl (lv_at hl 1 rfl) ?_
  refine lv_iload_n hx hb dX6_store_5 rfl (lv_at hl 2 rfl) ?_
  refine lv_iload_n hx hb dX6_store_6 rfl (lv_at hl 3 rfl) ?_
  refine ki hw Fr_hi (rS hx hb hml hts hown hK hw (c_X6_storedAt l x1 x2 x3) (mkS 3 hts k_ml_RX6_27 k_st_yX6_storedAt k_in_RX6 k_co_yX6_storedAt hd_X6_storedAt ⟨Nat.le_of_ble_eq_true rfl, Nat.le_of_ble_eq_true rfl⟩) rfl hl.1 rfl (Nat.le_of_ble_eq_true rfl) dX6_store_7 ⟨Nat.le_of_ble_eq_true rfl, Nat.le_of_ble_eq_true rfl⟩) (fun H locs hw => ?_)
  refine lv_bipush (v := 64) hx hb dX6_store_10 (by decide) ?_
  refine lv_iload hx hb dX6_store_12 (lv_at hl 4 rfl) ?_
  refine lv_iconst (v := 1) hx hb dX6_store_14 (by decide) ?_
  refine lv_iadd hx hb dX6_store_15 ?_
  refine lv_imul hx hb dX6_store_16 ?_
  refine lv_iload hx hb dX6_store_17 (lv_at hl 5 rfl) ?_
  refine lv_iadd hx hb dX6_store_19 ?_
  refine lv_iconst (v := 1) hx hb dX6_store_20 (by decide) ?_
  refine lv_iadd hx hb dX6_store_21 ?_
  obtain ⟨hi2, hm⟩ := ck_some hm
  refine pI hx hb hK hw hp1 hi2 dX6_store_22 (fun H locs hw => ?_)
  cases hm
  exact eV hx hb hr hlocks hK hw dX6_store_23
set_option maxHeartbeats 4000000 in
set_option maxRecDepth 100000 in
theorem c_X6_payloadAt (l : Launch) {D : va_G} {cy : Nat → ClassId} {A : Nat → Nat} {G : Nat → Bool} {M : Mem} {sz : Nat} {a0 : Nat} {x1 : Int32} {x2 : Int32} {x3 : Int32} (h0 : TT G 5 a0)  {z : Int32} (hm : m_X6_payloadAt a0 x1 x2 x3 M = some z) : Met l yX6_payloadAt (wm yX6_payloadAt cX6_payloadAt 4 (some .int)) ({ frames := 1, cells := 0, slots := 0, locals := 22 } : Room) (va_Pc [.ref (A a0), .int x1, .int x2, .int x3] (Pr D cy A G M sz)) (va_Qi (fun (r' : Int32) (u : Mem) => r' = z ∧ u = M) (Po D cy A G (Fr A G sz)) (Fr A G sz))  0 0 (Fr A G sz) := by
  refine ofB (Qc := fun sz => va_Qi (fun (r' : Int32) (u : Mem) => r' = z ∧ u = M) (Po D cy A G (Fr A G sz)) (Fr A G sz)) (by decide +kernel) (Nat.le_of_ble_eq_true rfl) ?_
  intro p e s m below meth c hx hb hr hts hown hlocks hml hmn hK hw ls hl
  have hl : lv_has ls 4 [(0, .ref (A a0)), (1, .int x1), (2, .int x2), (3, .int x3)] := hl
  unfold m_X6_payloadAt at hm
  revert hw
  suffices K : ∀ (H : Heap) (locs : List Loc), WD D cy (Fr A G s.heap.size) A s.heap G M H locs → W p l e (headSpec (wm yX6_payloadAt cX6_payloadAt 4 (some .int)) ({ frames := 1, cells := 0, slots := 0, locals := 22 } : Room)).room s m ([.ref (A a0), .int x1, .int x2, .int x3] : List Value).toArray below meth c H locs 0 0 (MQ below (va_Qi (fun (r' : Int32) (u : Mem) => r' = z ∧ u = M) (Po D cy A G (Fr A G s.heap.size)) (Fr A G s.heap.size)) ([.ref (A a0), .int x1, .int x2, .int x3] : List Value).toArray s 0 0 (Fr A G s.heap.size)) (F0 m 0 ls []) from fun hw => K _ _ hw
  intro H locs hw
  refine lv_aload_n hx hb dX6_payloadAt_0 rfl (lv_at hl 0 rfl) ?_
  refine g5 hx hb hts hown hK hw h0 0 (by decide) (.ref (A 4)) rfl k_fl_RX6_7 (fun _ h => h) dX6_payloadAt_1 ?_
  have hp1 := mo_s h0
  refine lv_iload_n hx hb dX6_payloadAt_4 rfl (lv_at hl 1 rfl) ?_
  refine lv_iload_n hx hb dX6_payloadAt_5 rfl (lv_at hl 2 rfl) ?_
  refine lv_iload_n hx hb dX6_payloadAt_6 rfl (lv_at hl 3 rfl) ?_
  refine ki hw Fr_hi (rS hx hb hml hts hown hK hw (c_X6_storedAt l x1 x2 x3) (mkS 3 hts k_ml_RX6_27 k_st_yX6_storedAt k_in_RX6 k_co_yX6_storedAt hd_X6_storedAt ⟨Nat.le_of_ble_eq_true rfl, Nat.le_of_ble_eq_true rfl⟩) rfl hl.1 rfl (Nat.le_of_ble_eq_true rfl) dX6_payloadAt_7 ⟨Nat.le_of_ble_eq_true rfl, Nat.le_of_ble_eq_true rfl⟩) (fun H locs hw => ?_)
  obtain ⟨hi2, hm⟩ := ck_some hm
  refine gI hx hb hK hw hp1 hi2 dX6_payloadAt_10 ?_
  refine lv_bipush (v := 64) hx hb dX6_payloadAt_11 (by decide) ?_
  refine lv_idiv hx hb dX6_payloadAt_13 (by decide) ?_
  refine lv_iconst (v := 1) hx hb dX6_payloadAt_14 (by decide) ?_
  refine lv_isub hx hb dX6_payloadAt_15 ?_
  cases hm
  exact eI hx hb hr hlocks hK hw dX6_payloadAt_16
set_option maxHeartbeats 4000000 in
set_option maxRecDepth 100000 in
theorem c_X6_confirmedAt (l : Launch) {D : va_G} {cy : Nat → ClassId} {A : Nat → Nat} {G : Nat → Bool} {M : Mem} {sz : Nat} {a0 : Nat} {x1 : Int32} {x2 : Int32} {x3 : Int32} (h0 : TT G 5 a0)  {z : Int32} (hm : m_X6_confirmedAt a0 x1 x2 x3 M = some z) : Met l yX6_confirmedAt (wm yX6_confirmedAt cX6_confirmedAt 4 (some .int)) ({ frames := 1, cells := 0, slots := 0, locals := 22 } : Room) (va_Pc [.ref (A a0), .int x1, .int x2, .int x3] (Pr D cy A G M sz)) (va_Qi (fun (r' : Int32) (u : Mem) => r' = z ∧ u = M) (Po D cy A G (Fr A G sz)) (Fr A G sz))  0 0 (Fr A G sz) := by
  refine ofB (Qc := fun sz => va_Qi (fun (r' : Int32) (u : Mem) => r' = z ∧ u = M) (Po D cy A G (Fr A G sz)) (Fr A G sz)) (by decide +kernel) (Nat.le_of_ble_eq_true rfl) ?_
  intro p e s m below meth c hx hb hr hts hown hlocks hml hmn hK hw ls hl
  have hl : lv_has ls 4 [(0, .ref (A a0)), (1, .int x1), (2, .int x2), (3, .int x3)] := hl
  unfold m_X6_confirmedAt at hm
  revert hw
  suffices K : ∀ (H : Heap) (locs : List Loc), WD D cy (Fr A G s.heap.size) A s.heap G M H locs → W p l e (headSpec (wm yX6_confirmedAt cX6_confirmedAt 4 (some .int)) ({ frames := 1, cells := 0, slots := 0, locals := 22 } : Room)).room s m ([.ref (A a0), .int x1, .int x2, .int x3] : List Value).toArray below meth c H locs 0 0 (MQ below (va_Qi (fun (r' : Int32) (u : Mem) => r' = z ∧ u = M) (Po D cy A G (Fr A G s.heap.size)) (Fr A G s.heap.size)) ([.ref (A a0), .int x1, .int x2, .int x3] : List Value).toArray s 0 0 (Fr A G s.heap.size)) (F0 m 0 ls []) from fun hw => K _ _ hw
  intro H locs hw
  refine lv_aload_n hx hb dX6_confirmedAt_0 rfl (lv_at hl 0 rfl) ?_
  refine g5 hx hb hts hown hK hw h0 0 (by decide) (.ref (A 4)) rfl k_fl_RX6_7 (fun _ h => h) dX6_confirmedAt_1 ?_
  have hp1 := mo_s h0
  refine lv_iload_n hx hb dX6_confirmedAt_4 rfl (lv_at hl 1 rfl) ?_
  refine lv_iload_n hx hb dX6_confirmedAt_5 rfl (lv_at hl 2 rfl) ?_
  refine lv_iload_n hx hb dX6_confirmedAt_6 rfl (lv_at hl 3 rfl) ?_
  refine ki hw Fr_hi (rS hx hb hml hts hown hK hw (c_X6_storedAt l x1 x2 x3) (mkS 3 hts k_ml_RX6_27 k_st_yX6_storedAt k_in_RX6 k_co_yX6_storedAt hd_X6_storedAt ⟨Nat.le_of_ble_eq_true rfl, Nat.le_of_ble_eq_true rfl⟩) rfl hl.1 rfl (Nat.le_of_ble_eq_true rfl) dX6_confirmedAt_7 ⟨Nat.le_of_ble_eq_true rfl, Nat.le_of_ble_eq_true rfl⟩) (fun H locs hw => ?_)
  obtain ⟨hi2, hm⟩ := ck_some hm
  refine gI hx hb hK hw hp1 hi2 dX6_confirmedAt_10 ?_
  refine lv_bipush (v := 64) hx hb dX6_confirmedAt_11 (by decide) ?_
  refine lv_irem hx hb dX6_confirmedAt_13 (by decide) ?_
  refine lv_iconst (v := 1) hx hb dX6_confirmedAt_14 (by decide) ?_
  refine lv_isub hx hb dX6_confirmedAt_15 ?_
  cases hm
  exact eI hx hb hr hlocks hK hw dX6_confirmedAt_16
set_option maxHeartbeats 4000000 in
set_option maxRecDepth 100000 in
theorem c_X6_weightOf (l : Launch) {D : va_G} {cy : Nat → ClassId} {A : Nat → Nat} {G : Nat → Bool} {M : Mem} {sz : Nat} {a0 : Nat} {x1 : Int32} (h0 : TT G 5 a0)  {z : Int32} (hm : m_X6_weightOf a0 x1 M = some z) : Met l yX6_weightOf (wm yX6_weightOf cX6_weightOf 4 (some .int)) ({ frames := 0, cells := 0, slots := 0, locals := 0 } : Room) (va_Pc [.ref (A a0), .int x1] (Pr D cy A G M sz)) (va_Qi (fun (r' : Int32) (u : Mem) => r' = z ∧ u = M) (Po D cy A G (Fr A G sz)) (Fr A G sz))  0 0 (Fr A G sz) := by
  refine ofB (Qc := fun sz => va_Qi (fun (r' : Int32) (u : Mem) => r' = z ∧ u = M) (Po D cy A G (Fr A G sz)) (Fr A G sz)) (by decide +kernel) (Nat.le_of_ble_eq_true rfl) ?_
  intro p e s m below meth c hx hb hr hts hown hlocks hml hmn hK hw ls hl
  have hl : lv_has ls 4 [(0, .ref (A a0)), (1, .int x1)] := hl
  have J4 : ∀  (n : Nat) (v2 : Int32) (v3 : Int32), m_X6_weightOf_L4 a0 x1 M n v2 v3 = some z → ∀ (H : Heap) (locs : List Loc), WD D cy (Fr A G s.heap.size) A s.heap G M H locs → ∀ ls : Array Slot, lv_has ls 4 [(0, .ref (A a0)), (1, .int x1), (2, .int v2), (3, .int v3)] → W p l e (headSpec (wm yX6_weightOf cX6_weightOf 4 (some .int)) ({ frames := 0, cells := 0, slots := 0, locals := 0 } : Room)).room s m ([.ref (A a0), .int x1] : List Value).toArray below meth c H locs 0 0 (MQ below (va_Qi (fun (r' : Int32) (u : Mem) => r' = z ∧ u = M) (Po D cy A G (Fr A G s.heap.size)) (Fr A G s.heap.size)) ([.ref (A a0), .int x1] : List Value).toArray s 0 0 (Fr A G s.heap.size)) (F0 m 4 ls []) := by
    intro n
    induction n with
    | zero =>
      intro v2 v3 hm
      cases (show (none : Option Int32) = some z from hm)
    | succ n ih =>
      intro v2 v3 hm H locs hw ls hl
      have hm := (m_X6_weightOf_L4_s a0 x1 M n v2 v3).symm.trans hm
      refine lv_iload_n hx hb dX6_weightOf_4 rfl (lv_at hl 3 rfl) ?_
      refine lv_sipush (v := 160) hx hb dX6_weightOf_5 (by decide) ?_
      refine lv_icmp_ge (tgt := 44) hx hb dX6_weightOf_8 (by decide) (fun hq1 => ?_) (fun hq1 => ?_)
      · have hm := (if_pos hq1).symm.trans hm
        refine lv_iload_n hx hb dX6_weightOf_44 rfl (lv_at hl 2 rfl) ?_
        cases hm
        exact eI hx hb hr hlocks hK hw dX6_weightOf_45
      · have hm := (if_neg hq1).symm.trans hm
        refine lv_iload_n hx hb dX6_weightOf_11 rfl (lv_at hl 2 rfl) ?_
        refine lv_aload_n hx hb dX6_weightOf_12 rfl (lv_at hl 0 rfl) ?_
        refine g5 hx hb hts hown hK hw h0 0 (by decide) (.ref (A 4)) rfl k_fl_RX6_7 (fun _ h => h) dX6_weightOf_13 ?_
        have hp2 := mo_s h0
        refine lv_sipush (v := 819) hx hb dX6_weightOf_16 (by decide) ?_
        refine lv_sipush (v := 160) hx hb dX6_weightOf_19 (by decide) ?_
        refine lv_iload_n hx hb dX6_weightOf_22 rfl (lv_at hl 1 rfl) ?_
        refine lv_imul hx hb dX6_weightOf_23 ?_
        refine lv_iadd hx hb dX6_weightOf_24 ?_
        refine lv_iload_n hx hb dX6_weightOf_25 rfl (lv_at hl 3 rfl) ?_
        refine lv_iadd hx hb dX6_weightOf_26 ?_
        obtain ⟨hi3, hm⟩ := ck_some hm
        refine gI hx hb hK hw hp2 hi3 dX6_weightOf_27 ?_
        refine lv_if_eq (tgt := 35) hx hb dX6_weightOf_28 (by decide) (fun hq4 => ?_) (fun hq4 => ?_)
        · have hm := (if_pos hq4).symm.trans hm
          refine lv_iconst (v := 0) hx hb dX6_weightOf_35 (by decide) ?_
          refine lv_iadd hx hb dX6_weightOf_36 ?_
          refine lv_istore_n (lv' := [(2, .int (v2 + 0)), (0, .ref (A a0)), (1, .int x1), (3, .int v3)]) hx hb dX6_weightOf_37 rfl hl (by decide) rfl (fun ls hl => ?_)
          refine lv_iinc (v := (v3 + 1)) (lv' := [(3, .int (v3 + 1)), (2, .int (v2 + 0)), (0, .ref (A a0)), (1, .int x1)]) hx hb dX6_weightOf_38 hl (k := 3) rfl rfl (by decide) rfl (fun ls hl => ?_)
          refine lv_goto (tgt := 4) hx hb dX6_weightOf_41 (by decide) ?_
          exact ih (v2 + 0) (v3 + 1) hm H locs hw ls (lv_sub hl [2, 3, 1, 0] rfl)
        · have hm := (if_neg hq4).symm.trans hm
          refine lv_iconst (v := 1) hx hb dX6_weightOf_31 (by decide) ?_
          refine lv_goto (tgt := 36) hx hb dX6_weightOf_32 (by decide) ?_
          refine lv_iadd hx hb dX6_weightOf_36 ?_
          refine lv_istore_n (lv' := [(2, .int (v2 + 1)), (0, .ref (A a0)), (1, .int x1), (3, .int v3)]) hx hb dX6_weightOf_37 rfl hl (by decide) rfl (fun ls hl => ?_)
          refine lv_iinc (v := (v3 + 1)) (lv' := [(3, .int (v3 + 1)), (2, .int (v2 + 1)), (0, .ref (A a0)), (1, .int x1)]) hx hb dX6_weightOf_38 hl (k := 3) rfl rfl (by decide) rfl (fun ls hl => ?_)
          refine lv_goto (tgt := 4) hx hb dX6_weightOf_41 (by decide) ?_
          exact ih (v2 + 1) (v3 + 1) hm H locs hw ls (lv_sub hl [2, 3, 1, 0] rfl)
  unfold m_X6_weightOf at hm
  revert hw
  suffices K : ∀ (H : Heap) (locs : List Loc), WD D cy (Fr A G s.heap.size) A s.heap G M H locs → W p l e (headSpec (wm yX6_weightOf cX6_weightOf 4 (some .int)) ({ frames := 0, cells := 0, slots := 0, locals := 0 } : Room)).room s m ([.ref (A a0), .int x1] : List Value).toArray below meth c H locs 0 0 (MQ below (va_Qi (fun (r' : Int32) (u : Mem) => r' = z ∧ u = M) (Po D cy A G (Fr A G s.heap.size)) (Fr A G s.heap.size)) ([.ref (A a0), .int x1] : List Value).toArray s 0 0 (Fr A G s.heap.size)) (F0 m 0 ls []) from fun hw => K _ _ hw
  intro H locs hw
  refine lv_iconst (v := 0) hx hb dX6_weightOf_0 (by decide) ?_
  refine lv_istore_n (lv' := [(2, .int 0), (0, .ref (A a0)), (1, .int x1)]) hx hb dX6_weightOf_1 rfl hl (by decide) rfl (fun ls hl => ?_)
  refine lv_iconst (v := 0) hx hb dX6_weightOf_2 (by decide) ?_
  refine lv_istore_n (lv' := [(3, .int 0), (2, .int 0), (0, .ref (A a0)), (1, .int x1)]) hx hb dX6_weightOf_3 rfl hl (by decide) rfl (fun ls hl => ?_)
  exact J4 fuel 0 0 hm H locs hw ls (lv_sub hl [2, 3, 1, 0] rfl)
set_option maxHeartbeats 4000000 in
set_option maxRecDepth 100000 in
theorem c_X6_fragmentOf (l : Launch) {D : va_G} {cy : Nat → ClassId} {A : Nat → Nat} {G : Nat → Bool} {M : Mem} {sz : Nat} {a0 : Nat} {x1 : Int32} {x2 : Int32} (h0 : TT G 5 a0)  {z : Int32} (hm : m_X6_fragmentOf a0 x1 x2 M = some z) : Met l yX6_fragmentOf (wm yX6_fragmentOf cX6_fragmentOf 4 (some .int)) ({ frames := 1, cells := 0, slots := 0, locals := 22 } : Room) (va_Pc [.ref (A a0), .int x1, .int x2] (Pr D cy A G M sz)) (va_Qi (fun (r' : Int32) (u : Mem) => r' = z ∧ u = M) (Po D cy A G (Fr A G sz)) (Fr A G sz))  0 0 (Fr A G sz) := by
  refine ofB (Qc := fun sz => va_Qi (fun (r' : Int32) (u : Mem) => r' = z ∧ u = M) (Po D cy A G (Fr A G sz)) (Fr A G sz)) (by decide +kernel) (Nat.le_of_ble_eq_true rfl) ?_
  intro p e s m below meth c hx hb hr hts hown hlocks hml hmn hK hw ls hl
  have hl : lv_has ls 4 [(0, .ref (A a0)), (1, .int x1), (2, .int x2)] := hl
  have J2 : ∀  (n : Nat) (v3 : Int32), m_X6_fragmentOf_L2 a0 x1 x2 M n v3 = some z → ∀ (H : Heap) (locs : List Loc), WD D cy (Fr A G s.heap.size) A s.heap G M H locs → ∀ ls : Array Slot, lv_has ls 4 [(0, .ref (A a0)), (1, .int x1), (2, .int x2), (3, .int v3)] → W p l e (headSpec (wm yX6_fragmentOf cX6_fragmentOf 4 (some .int)) ({ frames := 1, cells := 0, slots := 0, locals := 22 } : Room)).room s m ([.ref (A a0), .int x1, .int x2] : List Value).toArray below meth c H locs 0 0 (MQ below (va_Qi (fun (r' : Int32) (u : Mem) => r' = z ∧ u = M) (Po D cy A G (Fr A G s.heap.size)) (Fr A G s.heap.size)) ([.ref (A a0), .int x1, .int x2] : List Value).toArray s 0 0 (Fr A G s.heap.size)) (F0 m 2 ls []) := by
    intro n
    induction n with
    | zero =>
      intro v3 hm
      cases (show (none : Option Int32) = some z from hm)
    | succ n ih =>
      intro v3 hm H locs hw ls hl
      have hm := (m_X6_fragmentOf_L2_s a0 x1 x2 M n v3).symm.trans hm
      refine lv_iload_n hx hb dX6_fragmentOf_2 rfl (lv_at hl 3 rfl) ?_
      refine lv_iconst (v := 1) hx hb dX6_fragmentOf_3 (by decide) ?_
      refine lv_iadd hx hb dX6_fragmentOf_4 ?_
      refine lv_aload_n hx hb dX6_fragmentOf_5 rfl (lv_at hl 0 rfl) ?_
      refine lv_iload_n hx hb dX6_fragmentOf_6 rfl (lv_at hl 1 rfl) ?_
      refine lv_bipush (v := 6) hx hb dX6_fragmentOf_7 (by decide) ?_
      obtain ⟨z1, e2, hm⟩ := bd_some hm
      refine ki hw Fr_hi (rV hx hb hml hts hown hK hw (c_X6_of l h0 e2) h0 (by decide) rfl (mkV 2 hts k_ml_RX6_31 k_im_yX6_of k_se_yX6_of k_in_RX6 k_co_yX6_of hd_X6_of ⟨Nat.le_of_ble_eq_true rfl, Nat.le_of_ble_eq_true rfl⟩) rfl hl.1 rfl (Nat.le_of_ble_eq_true rfl) dX6_fragmentOf_9 ⟨Nat.le_of_ble_eq_true rfl, Nat.le_of_ble_eq_true rfl⟩) (fun H locs hw => ?_)
      refine lv_icmp_ge (tgt := 36) hx hb dX6_fragmentOf_12 (by decide) (fun hq3 => ?_) (fun hq3 => ?_)
      · have hm := (if_pos hq3).symm.trans hm
        refine lv_iload_n hx hb dX6_fragmentOf_36 rfl (lv_at hl 3 rfl) ?_
        cases hm
        exact eI hx hb hr hlocks hK hw dX6_fragmentOf_37
      · have hm := (if_neg hq3).symm.trans hm
        refine lv_aload_n hx hb dX6_fragmentOf_15 rfl (lv_at hl 0 rfl) ?_
        refine lv_iload_n hx hb dX6_fragmentOf_16 rfl (lv_at hl 1 rfl) ?_
        refine lv_bipush (v := 87) hx hb dX6_fragmentOf_17 (by decide) ?_
        refine lv_iload_n hx hb dX6_fragmentOf_19 rfl (lv_at hl 3 rfl) ?_
        refine lv_iadd hx hb dX6_fragmentOf_20 ?_
        refine lv_iconst (v := 1) hx hb dX6_fragmentOf_21 (by decide) ?_
        refine lv_iadd hx hb dX6_fragmentOf_22 ?_
        obtain ⟨z4, e5, hm⟩ := bd_some hm
        refine ki hw Fr_hi (rV hx hb hml hts hown hK hw (c_X6_of l h0 e5) h0 (by decide) rfl (mkV 2 hts k_ml_RX6_31 k_im_yX6_of k_se_yX6_of k_in_RX6 k_co_yX6_of hd_X6_of ⟨Nat.le_of_ble_eq_true rfl, Nat.le_of_ble_eq_true rfl⟩) rfl hl.1 rfl (Nat.le_of_ble_eq_true rfl) dX6_fragmentOf_23 ⟨Nat.le_of_ble_eq_true rfl, Nat.le_of_ble_eq_true rfl⟩) (fun H locs hw => ?_)
        refine lv_iload_n hx hb dX6_fragmentOf_26 rfl (lv_at hl 2 rfl) ?_
        refine lv_icmp_gt (tgt := 36) hx hb dX6_fragmentOf_27 (by decide) (fun hq6 => ?_) (fun hq6 => ?_)
        · have hm := (if_pos hq6).symm.trans hm
          refine lv_iload_n hx hb dX6_fragmentOf_36 rfl (lv_at hl 3 rfl) ?_
          cases hm
          exact eI hx hb hr hlocks hK hw dX6_fragmentOf_37
        · have hm := (if_neg hq6).symm.trans hm
          refine lv_iinc (v := (v3 + 1)) (lv' := [(3, .int (v3 + 1)), (0, .ref (A a0)), (1, .int x1), (2, .int x2)]) hx hb dX6_fragmentOf_30 hl (k := 3) rfl rfl (by decide) rfl (fun ls hl => ?_)
          refine lv_goto (tgt := 2) hx hb dX6_fragmentOf_33 (by decide) ?_
          exact ih (v3 + 1) hm H locs hw ls (lv_sub hl [1, 2, 3, 0] rfl)
  unfold m_X6_fragmentOf at hm
  revert hw
  suffices K : ∀ (H : Heap) (locs : List Loc), WD D cy (Fr A G s.heap.size) A s.heap G M H locs → W p l e (headSpec (wm yX6_fragmentOf cX6_fragmentOf 4 (some .int)) ({ frames := 1, cells := 0, slots := 0, locals := 22 } : Room)).room s m ([.ref (A a0), .int x1, .int x2] : List Value).toArray below meth c H locs 0 0 (MQ below (va_Qi (fun (r' : Int32) (u : Mem) => r' = z ∧ u = M) (Po D cy A G (Fr A G s.heap.size)) (Fr A G s.heap.size)) ([.ref (A a0), .int x1, .int x2] : List Value).toArray s 0 0 (Fr A G s.heap.size)) (F0 m 0 ls []) from fun hw => K _ _ hw
  intro H locs hw
  refine lv_iconst (v := 0) hx hb dX6_fragmentOf_0 (by decide) ?_
  refine lv_istore_n (lv' := [(3, .int 0), (0, .ref (A a0)), (1, .int x1), (2, .int x2)]) hx hb dX6_fragmentOf_1 rfl hl (by decide) rfl (fun ls hl => ?_)
  exact J2 fuel 0 hm H locs hw ls (lv_sub hl [1, 2, 3, 0] rfl)
set_option maxHeartbeats 4000000 in
set_option maxRecDepth 100000 in
theorem c_X6_memberOf (l : Launch) {D : va_G} {cy : Nat → ClassId} {A : Nat → Nat} {G : Nat → Bool} {M : Mem} {sz : Nat} {a0 : Nat} {x1 : Int32} {x2 : Int32} {x3 : Int32} (h0 : TT G 5 a0)  {z : Int32} (hm : m_X6_memberOf a0 x1 x2 x3 M = some z) : Met l yX6_memberOf (wm yX6_memberOf cX6_memberOf 4 (some .int)) ({ frames := 1, cells := 0, slots := 0, locals := 22 } : Room) (va_Pc [.ref (A a0), .int x1, .int x2, .int x3] (Pr D cy A G M sz)) (va_Qi (fun (r' : Int32) (u : Mem) => r' = z ∧ u = M) (Po D cy A G (Fr A G sz)) (Fr A G sz))  0 0 (Fr A G sz) := by
  refine ofB (Qc := fun sz => va_Qi (fun (r' : Int32) (u : Mem) => r' = z ∧ u = M) (Po D cy A G (Fr A G sz)) (Fr A G sz)) (by decide +kernel) (Nat.le_of_ble_eq_true rfl) ?_
  intro p e s m below meth c hx hb hr hts hown hlocks hml hmn hK hw ls hl
  have hl : lv_has ls 4 [(0, .ref (A a0)), (1, .int x1), (2, .int x2), (3, .int x3)] := hl
  unfold m_X6_memberOf at hm
  revert hw
  suffices K : ∀ (H : Heap) (locs : List Loc), WD D cy (Fr A G s.heap.size) A s.heap G M H locs → W p l e (headSpec (wm yX6_memberOf cX6_memberOf 4 (some .int)) ({ frames := 1, cells := 0, slots := 0, locals := 22 } : Room)).room s m ([.ref (A a0), .int x1, .int x2, .int x3] : List Value).toArray below meth c H locs 0 0 (MQ below (va_Qi (fun (r' : Int32) (u : Mem) => r' = z ∧ u = M) (Po D cy A G (Fr A G s.heap.size)) (Fr A G s.heap.size)) ([.ref (A a0), .int x1, .int x2, .int x3] : List Value).toArray s 0 0 (Fr A G s.heap.size)) (F0 m 0 ls []) from fun hw => K _ _ hw
  intro H locs hw
  refine lv_aload_n hx hb dX6_memberOf_0 rfl (lv_at hl 0 rfl) ?_
  refine lv_iload_n hx hb dX6_memberOf_1 rfl (lv_at hl 1 rfl) ?_
  refine lv_sipush (v := 128) hx hb dX6_memberOf_2 (by decide) ?_
  refine lv_iconst (v := 5) hx hb dX6_memberOf_5 (by decide) ?_
  refine lv_iload_n hx hb dX6_memberOf_6 rfl (lv_at hl 2 rfl) ?_
  refine lv_imul hx hb dX6_memberOf_7 ?_
  refine lv_iadd hx hb dX6_memberOf_8 ?_
  refine lv_iload_n hx hb dX6_memberOf_9 rfl (lv_at hl 3 rfl) ?_
  refine lv_iadd hx hb dX6_memberOf_10 ?_
  obtain ⟨z1, e2, hm⟩ := bd_some hm
  refine ki hw Fr_hi (rV hx hb hml hts hown hK hw (c_X6_of l h0 e2) h0 (by decide) rfl (mkV 2 hts k_ml_RX6_31 k_im_yX6_of k_se_yX6_of k_in_RX6 k_co_yX6_of hd_X6_of ⟨Nat.le_of_ble_eq_true rfl, Nat.le_of_ble_eq_true rfl⟩) rfl hl.1 rfl (Nat.le_of_ble_eq_true rfl) dX6_memberOf_11 ⟨Nat.le_of_ble_eq_true rfl, Nat.le_of_ble_eq_true rfl⟩) (fun H locs hw => ?_)
  cases hm
  exact eI hx hb hr hlocks hK hw dX6_memberOf_14
set_option maxHeartbeats 4000000 in
set_option maxRecDepth 100000 in
theorem c_X6_writer (l : Launch) {D : va_G} {cy : Nat → ClassId} {A : Nat → Nat} {G : Nat → Bool} {M : Mem} {sz : Nat} {a0 : Nat} {x1 : Int32} {x2 : Int32} {x3 : Int32} {x4 : Int32} (h0 : TT G 5 a0)  {z : Int32} (hm : m_X6_writer a0 x1 x2 x3 x4 M = some z) : Met l yX6_writer (wm yX6_writer cX6_writer 5 (some .int)) ({ frames := 2, cells := 0, slots := 0, locals := 45 } : Room) (va_Pc [.ref (A a0), .int x1, .int x2, .int x3, .int x4] (Pr D cy A G M sz)) (va_Qi (fun (r' : Int32) (u : Mem) => r' = z ∧ u = M) (Po D cy A G (Fr A G sz)) (Fr A G sz))  0 0 (Fr A G sz) := by
  refine ofB (Qc := fun sz => va_Qi (fun (r' : Int32) (u : Mem) => r' = z ∧ u = M) (Po D cy A G (Fr A G sz)) (Fr A G sz)) (by decide +kernel) (Nat.le_of_ble_eq_true rfl) ?_
  intro p e s m below meth c hx hb hr hts hown hlocks hml hmn hK hw ls hl
  have hl : lv_has ls 5 [(0, .ref (A a0)), (1, .int x1), (2, .int x2), (3, .int x3), (4, .int x4)] := hl
  unfold m_X6_writer at hm
  revert hw
  suffices K : ∀ (H : Heap) (locs : List Loc), WD D cy (Fr A G s.heap.size) A s.heap G M H locs → W p l e (headSpec (wm yX6_writer cX6_writer 5 (some .int)) ({ frames := 2, cells := 0, slots := 0, locals := 45 } : Room)).room s m ([.ref (A a0), .int x1, .int x2, .int x3, .int x4] : List Value).toArray below meth c H locs 0 0 (MQ below (va_Qi (fun (r' : Int32) (u : Mem) => r' = z ∧ u = M) (Po D cy A G (Fr A G s.heap.size)) (Fr A G s.heap.size)) ([.ref (A a0), .int x1, .int x2, .int x3, .int x4] : List Value).toArray s 0 0 (Fr A G s.heap.size)) (F0 m 0 ls []) from fun hw => K _ _ hw
  intro H locs hw
  refine lv_aload_n hx hb dX6_writer_0 rfl (lv_at hl 0 rfl) ?_
  refine lv_iload_n hx hb dX6_writer_1 rfl (lv_at hl 1 rfl) ?_
  refine lv_iload_n hx hb dX6_writer_2 rfl (lv_at hl 2 rfl) ?_
  refine lv_iload_n hx hb dX6_writer_3 rfl (lv_at hl 3 rfl) ?_
  refine lv_iload hx hb dX6_writer_4 (lv_at hl 4 rfl) ?_
  refine lv_iadd hx hb dX6_writer_6 ?_
  refine lv_aload_n hx hb dX6_writer_7 rfl (lv_at hl 0 rfl) ?_
  refine lv_iload_n hx hb dX6_writer_8 rfl (lv_at hl 1 rfl) ?_
  refine lv_iconst (v := 0) hx hb dX6_writer_9 (by decide) ?_
  obtain ⟨z1, e2, hm⟩ := bd_some hm
  refine ki hw Fr_hi (rV hx hb hml hts hown hK hw (c_X6_of l h0 e2) h0 (by decide) rfl (mkV 2 hts k_ml_RX6_31 k_im_yX6_of k_se_yX6_of k_in_RX6 k_co_yX6_of hd_X6_of ⟨Nat.le_of_ble_eq_true rfl, Nat.le_of_ble_eq_true rfl⟩) rfl hl.1 rfl (Nat.le_of_ble_eq_true rfl) dX6_writer_10 ⟨Nat.le_of_ble_eq_true rfl, Nat.le_of_ble_eq_true rfl⟩) (fun H locs hw => ?_)
  obtain ⟨hz3, hm⟩ := ck_some hm
  refine lv_irem hx hb dX6_writer_13 hz3 ?_
  obtain ⟨z4, e5, hm⟩ := bd_some hm
  refine ki hw Fr_hi (rV hx hb hml hts hown hK hw (c_X6_memberOf l h0 e5) h0 (by decide) rfl (mkV 3 hts k_ml_RX6_35 k_im_yX6_memberOf k_se_yX6_memberOf k_in_RX6 k_co_yX6_memberOf hd_X6_memberOf ⟨Nat.le_of_ble_eq_true rfl, Nat.le_of_ble_eq_true rfl⟩) rfl hl.1 rfl (Nat.le_of_ble_eq_true rfl) dX6_writer_14 ⟨Nat.le_of_ble_eq_true rfl, Nat.le_of_ble_eq_true rfl⟩) (fun H locs hw => ?_)
  cases hm
  exact eI hx hb hr hlocks hK hw dX6_writer_17
set_option maxHeartbeats 4000000 in
set_option maxRecDepth 100000 in
theorem c_X6_ensemble (l : Launch) {D : va_G} {cy : Nat → ClassId} {A : Nat → Nat} {G : Nat → Bool} {M : Mem} {sz : Nat} {a0 : Nat} {x1 : Int32} {x2 : Int32} (h0 : TT G 5 a0)  {z : Int32} (hm : m_X6_ensemble a0 x1 x2 M = some z) : Met l yX6_ensemble (wm yX6_ensemble cX6_ensemble 5 (some .int)) ({ frames := 2, cells := 0, slots := 0, locals := 45 } : Room) (va_Pc [.ref (A a0), .int x1, .int x2] (Pr D cy A G M sz)) (va_Qi (fun (r' : Int32) (u : Mem) => r' = z ∧ u = M) (Po D cy A G (Fr A G sz)) (Fr A G sz))  0 0 (Fr A G sz) := by
  refine ofB (Qc := fun sz => va_Qi (fun (r' : Int32) (u : Mem) => r' = z ∧ u = M) (Po D cy A G (Fr A G sz)) (Fr A G sz)) (by decide +kernel) (Nat.le_of_ble_eq_true rfl) ?_
  intro p e s m below meth c hx hb hr hts hown hlocks hml hmn hK hw ls hl
  have hl : lv_has ls 5 [(0, .ref (A a0)), (1, .int x1), (2, .int x2)] := hl
  have J5 : ∀  (n : Nat) (v3 : Int32) (v4 : Int32), m_X6_ensemble_L5 a0 x1 x2 M n v3 v4 = some z → ∀ (H : Heap) (locs : List Loc), WD D cy (Fr A G s.heap.size) A s.heap G M H locs → ∀ ls : Array Slot, lv_has ls 5 [(0, .ref (A a0)), (1, .int x1), (2, .int x2), (3, .int v3), (4, .int v4)] → W p l e (headSpec (wm yX6_ensemble cX6_ensemble 5 (some .int)) ({ frames := 2, cells := 0, slots := 0, locals := 45 } : Room)).room s m ([.ref (A a0), .int x1, .int x2] : List Value).toArray below meth c H locs 0 0 (MQ below (va_Qi (fun (r' : Int32) (u : Mem) => r' = z ∧ u = M) (Po D cy A G (Fr A G s.heap.size)) (Fr A G s.heap.size)) ([.ref (A a0), .int x1, .int x2] : List Value).toArray s 0 0 (Fr A G s.heap.size)) (F0 m 5 ls []) := by
    intro n
    induction n with
    | zero =>
      intro v3 v4 hm
      cases (show (none : Option Int32) = some z from hm)
    | succ n ih =>
      intro v3 v4 hm H locs hw ls hl
      have hm := (m_X6_ensemble_L5_s a0 x1 x2 M n v3 v4).symm.trans hm
      refine lv_iload hx hb dX6_ensemble_5 (lv_at hl 4 rfl) ?_
      refine lv_aload_n hx hb dX6_ensemble_7 rfl (lv_at hl 0 rfl) ?_
      refine lv_iload_n hx hb dX6_ensemble_8 rfl (lv_at hl 1 rfl) ?_
      refine lv_iconst (v := 0) hx hb dX6_ensemble_9 (by decide) ?_
      obtain ⟨z1, e2, hm⟩ := bd_some hm
      refine ki hw Fr_hi (rV hx hb hml hts hown hK hw (c_X6_of l h0 e2) h0 (by decide) rfl (mkV 2 hts k_ml_RX6_31 k_im_yX6_of k_se_yX6_of k_in_RX6 k_co_yX6_of hd_X6_of ⟨Nat.le_of_ble_eq_true rfl, Nat.le_of_ble_eq_true rfl⟩) rfl hl.1 rfl (Nat.le_of_ble_eq_true rfl) dX6_ensemble_10 ⟨Nat.le_of_ble_eq_true rfl, Nat.le_of_ble_eq_true rfl⟩) (fun H locs hw => ?_)
      refine lv_icmp_ge (tgt := 35) hx hb dX6_ensemble_13 (by decide) (fun hq3 => ?_) (fun hq3 => ?_)
      · have hm := (if_pos hq3).symm.trans hm
        refine lv_iload_n hx hb dX6_ensemble_35 rfl (lv_at hl 3 rfl) ?_
        cases hm
        exact eI hx hb hr hlocks hK hw dX6_ensemble_36
      · have hm := (if_neg hq3).symm.trans hm
        refine lv_iload_n hx hb dX6_ensemble_16 rfl (lv_at hl 3 rfl) ?_
        refine lv_iconst (v := 1) hx hb dX6_ensemble_17 (by decide) ?_
        refine lv_aload_n hx hb dX6_ensemble_18 rfl (lv_at hl 0 rfl) ?_
        refine lv_iload_n hx hb dX6_ensemble_19 rfl (lv_at hl 1 rfl) ?_
        refine lv_iload_n hx hb dX6_ensemble_20 rfl (lv_at hl 2 rfl) ?_
        refine lv_iload hx hb dX6_ensemble_21 (lv_at hl 4 rfl) ?_
        obtain ⟨z4, e5, hm⟩ := bd_some hm
        refine ki hw Fr_hi (rV hx hb hml hts hown hK hw (c_X6_memberOf l h0 e5) h0 (by decide) rfl (mkV 3 hts k_ml_RX6_35 k_im_yX6_memberOf k_se_yX6_memberOf k_in_RX6 k_co_yX6_memberOf hd_X6_memberOf ⟨Nat.le_of_ble_eq_true rfl, Nat.le_of_ble_eq_true rfl⟩) rfl hl.1 rfl (Nat.le_of_ble_eq_true rfl) dX6_ensemble_23 ⟨Nat.le_of_ble_eq_true rfl, Nat.le_of_ble_eq_true rfl⟩) (fun H locs hw => ?_)
        refine lv_ishl hx hb dX6_ensemble_26 ?_
        refine lv_ior hx hb dX6_ensemble_27 ?_
        refine lv_istore_n (lv' := [(3, .int (v3 ||| (1 <<< (z4 &&& 31)))), (0, .ref (A a0)), (1, .int x1), (2, .int x2), (4, .int v4)]) hx hb dX6_ensemble_28 rfl hl (by decide) rfl (fun ls hl => ?_)
        refine lv_iinc (v := (v4 + 1)) (lv' := [(4, .int (v4 + 1)), (3, .int (v3 ||| (1 <<< (z4 &&& 31)))), (0, .ref (A a0)), (1, .int x1), (2, .int x2)]) hx hb dX6_ensemble_29 hl (k := 4) rfl rfl (by decide) rfl (fun ls hl => ?_)
        refine lv_goto (tgt := 5) hx hb dX6_ensemble_32 (by decide) ?_
        exact ih (v3 ||| (1 <<< (z4 &&& 31))) (v4 + 1) hm H locs hw ls (lv_sub hl [2, 3, 4, 1, 0] rfl)
  unfold m_X6_ensemble at hm
  revert hw
  suffices K : ∀ (H : Heap) (locs : List Loc), WD D cy (Fr A G s.heap.size) A s.heap G M H locs → W p l e (headSpec (wm yX6_ensemble cX6_ensemble 5 (some .int)) ({ frames := 2, cells := 0, slots := 0, locals := 45 } : Room)).room s m ([.ref (A a0), .int x1, .int x2] : List Value).toArray below meth c H locs 0 0 (MQ below (va_Qi (fun (r' : Int32) (u : Mem) => r' = z ∧ u = M) (Po D cy A G (Fr A G s.heap.size)) (Fr A G s.heap.size)) ([.ref (A a0), .int x1, .int x2] : List Value).toArray s 0 0 (Fr A G s.heap.size)) (F0 m 0 ls []) from fun hw => K _ _ hw
  intro H locs hw
  refine lv_iconst (v := 0) hx hb dX6_ensemble_0 (by decide) ?_
  refine lv_istore_n (lv' := [(3, .int 0), (0, .ref (A a0)), (1, .int x1), (2, .int x2)]) hx hb dX6_ensemble_1 rfl hl (by decide) rfl (fun ls hl => ?_)
  refine lv_iconst (v := 0) hx hb dX6_ensemble_2 (by decide) ?_
  refine lv_istore (lv' := [(4, .int 0), (3, .int 0), (0, .ref (A a0)), (1, .int x1), (2, .int x2)]) hx hb dX6_ensemble_3 hl (by decide) rfl (fun ls hl => ?_)
  exact J5 fuel 0 0 hm H locs hw ls (lv_sub hl [2, 3, 4, 1, 0] rfl)
set_option maxHeartbeats 4000000 in
set_option maxRecDepth 100000 in
theorem c_X6_isWriter (l : Launch) {D : va_G} {cy : Nat → ClassId} {A : Nat → Nat} {G : Nat → Bool} {M : Mem} {sz : Nat} {a0 : Nat} {x1 : Int32} {x2 : Int32} {x3 : Int32} (h0 : TT G 5 a0)  {z : Int32} (hm : m_X6_isWriter a0 x1 x2 x3 M = some z) : Met l yX6_isWriter (wm yX6_isWriter cX6_isWriter 6 (some .boolean)) ({ frames := 3, cells := 0, slots := 0, locals := 69 } : Room) (va_Pc [.ref (A a0), .int x1, .int x2, .int x3] (Pr D cy A G M sz)) (va_Qi (fun (r' : Int32) (u : Mem) => r' = z ∧ u = M) (Po D cy A G (Fr A G sz)) (Fr A G sz))  0 0 (Fr A G sz) := by
  refine ofB (Qc := fun sz => va_Qi (fun (r' : Int32) (u : Mem) => r' = z ∧ u = M) (Po D cy A G (Fr A G sz)) (Fr A G sz)) (by decide +kernel) (Nat.le_of_ble_eq_true rfl) ?_
  intro p e s m below meth c hx hb hr hts hown hlocks hml hmn hK hw ls hl
  have hl : lv_has ls 6 [(0, .ref (A a0)), (1, .int x1), (2, .int x2), (3, .int x3)] := hl
  have J6 : ∀  (n : Nat) (v4 : Int32) (v5 : Int32), m_X6_isWriter_L6 a0 x1 x2 x3 M n v4 v5 = some z → ∀ (H : Heap) (locs : List Loc), WD D cy (Fr A G s.heap.size) A s.heap G M H locs → ∀ ls : Array Slot, lv_has ls 6 [(0, .ref (A a0)), (1, .int x1), (2, .int x2), (3, .int x3), (4, .int v4), (5, .int v5)] → W p l e (headSpec (wm yX6_isWriter cX6_isWriter 6 (some .boolean)) ({ frames := 3, cells := 0, slots := 0, locals := 69 } : Room)).room s m ([.ref (A a0), .int x1, .int x2, .int x3] : List Value).toArray below meth c H locs 0 0 (MQ below (va_Qi (fun (r' : Int32) (u : Mem) => r' = z ∧ u = M) (Po D cy A G (Fr A G s.heap.size)) (Fr A G s.heap.size)) ([.ref (A a0), .int x1, .int x2, .int x3] : List Value).toArray s 0 0 (Fr A G s.heap.size)) (F0 m 6 ls []) := by
    intro n
    induction n with
    | zero =>
      intro v4 v5 hm
      cases (show (none : Option Int32) = some z from hm)
    | succ n ih =>
      intro v4 v5 hm H locs hw ls hl
      have hm := (m_X6_isWriter_L6_s a0 x1 x2 x3 M n v4 v5).symm.trans hm
      refine lv_iload hx hb dX6_isWriter_6 (lv_at hl 5 rfl) ?_
      refine lv_aload_n hx hb dX6_isWriter_8 rfl (lv_at hl 0 rfl) ?_
      refine lv_iload_n hx hb dX6_isWriter_9 rfl (lv_at hl 1 rfl) ?_
      refine lv_iconst (v := 1) hx hb dX6_isWriter_10 (by decide) ?_
      obtain ⟨z1, e2, hm⟩ := bd_some hm
      refine ki hw Fr_hi (rV hx hb hml hts hown hK hw (c_X6_of l h0 e2) h0 (by decide) rfl (mkV 2 hts k_ml_RX6_31 k_im_yX6_of k_se_yX6_of k_in_RX6 k_co_yX6_of hd_X6_of ⟨Nat.le_of_ble_eq_true rfl, Nat.le_of_ble_eq_true rfl⟩) rfl hl.1 rfl (Nat.le_of_ble_eq_true rfl) dX6_isWriter_11 ⟨Nat.le_of_ble_eq_true rfl, Nat.le_of_ble_eq_true rfl⟩) (fun H locs hw => ?_)
      refine lv_icmp_ge (tgt := 53) hx hb dX6_isWriter_14 (by decide) (fun hq3 => ?_) (fun hq3 => ?_)
      · have hm := (if_pos hq3).symm.trans hm
        refine lv_iload hx hb dX6_isWriter_53 (lv_at hl 4 rfl) ?_
        obtain ⟨hz4, hm⟩ := ck_some hm
        cases hm
        exact eZ hz4 hx hb hr hlocks hK hw dX6_isWriter_55
      · have hm := (if_neg hq3).symm.trans hm
        refine lv_iload hx hb dX6_isWriter_17 (lv_at hl 4 rfl) ?_
        refine lv_if_ne (tgt := 40) hx hb dX6_isWriter_19 (by decide) (fun hq5 => ?_) (fun hq5 => ?_)
        · have hm := (if_neg hq5).symm.trans hm
          refine lv_iconst (v := 1) hx hb dX6_isWriter_40 (by decide) ?_
          refine lv_goto (tgt := 45) hx hb dX6_isWriter_41 (by decide) ?_
          refine lv_istore (lv' := [(4, .int 1), (0, .ref (A a0)), (1, .int x1), (2, .int x2), (3, .int x3), (5, .int v5)]) hx hb dX6_isWriter_45 hl (by decide) rfl (fun ls hl => ?_)
          refine lv_iinc (v := (v5 + 1)) (lv' := [(5, .int (v5 + 1)), (4, .int 1), (0, .ref (A a0)), (1, .int x1), (2, .int x2), (3, .int x3)]) hx hb dX6_isWriter_47 hl (k := 5) rfl rfl (by decide) rfl (fun ls hl => ?_)
          refine lv_goto (tgt := 6) hx hb dX6_isWriter_50 (by decide) ?_
          exact ih 1 (v5 + 1) hm H locs hw ls (lv_sub hl [2, 3, 4, 5, 1, 0] rfl)
        · have hm := (if_pos hq5).symm.trans hm
          refine lv_aload_n hx hb dX6_isWriter_22 rfl (lv_at hl 0 rfl) ?_
          refine lv_iload_n hx hb dX6_isWriter_23 rfl (lv_at hl 1 rfl) ?_
          refine lv_aload_n hx hb dX6_isWriter_24 rfl (lv_at hl 0 rfl) ?_
          refine lv_iload_n hx hb dX6_isWriter_25 rfl (lv_at hl 1 rfl) ?_
          refine lv_iload_n hx hb dX6_isWriter_26 rfl (lv_at hl 2 rfl) ?_
          obtain ⟨z6, e7, hm⟩ := bd_some hm
          refine ki hw Fr_hi (rV hx hb hml hts hown hK hw (c_X6_fragmentOf l h0 e7) h0 (by decide) rfl (mkV 2 hts k_ml_RX6_38 k_im_yX6_fragmentOf k_se_yX6_fragmentOf k_in_RX6 k_co_yX6_fragmentOf hd_X6_fragmentOf ⟨Nat.le_of_ble_eq_true rfl, Nat.le_of_ble_eq_true rfl⟩) rfl hl.1 rfl (Nat.le_of_ble_eq_true rfl) dX6_isWriter_27 ⟨Nat.le_of_ble_eq_true rfl, Nat.le_of_ble_eq_true rfl⟩) (fun H locs hw => ?_)
          refine lv_iload_n hx hb dX6_isWriter_30 rfl (lv_at hl 2 rfl) ?_
          refine lv_iload hx hb dX6_isWriter_31 (lv_at hl 5 rfl) ?_
          obtain ⟨z8, e9, hm⟩ := bd_some hm
          refine ki hw Fr_hi (rV hx hb hml hts hown hK hw (c_X6_writer l h0 e9) h0 (by decide) rfl (mkV 4 hts k_ml_RX6_41 k_im_yX6_writer k_se_yX6_writer k_in_RX6 k_co_yX6_writer hd_X6_writer ⟨Nat.le_of_ble_eq_true rfl, Nat.le_of_ble_eq_true rfl⟩) rfl hl.1 rfl (Nat.le_of_ble_eq_true rfl) dX6_isWriter_33 ⟨Nat.le_of_ble_eq_true rfl, Nat.le_of_ble_eq_true rfl⟩) (fun H locs hw => ?_)
          refine lv_iload_n hx hb dX6_isWriter_36 rfl (lv_at hl 3 rfl) ?_
          refine lv_icmp_ne (tgt := 44) hx hb dX6_isWriter_37 (by decide) (fun hq10 => ?_) (fun hq10 => ?_)
          · have hm := (if_neg hq10).symm.trans hm
            refine lv_iconst (v := 0) hx hb dX6_isWriter_44 (by decide) ?_
            refine lv_istore (lv' := [(4, .int 0), (0, .ref (A a0)), (1, .int x1), (2, .int x2), (3, .int x3), (5, .int v5)]) hx hb dX6_isWriter_45 hl (by decide) rfl (fun ls hl => ?_)
            refine lv_iinc (v := (v5 + 1)) (lv' := [(5, .int (v5 + 1)), (4, .int 0), (0, .ref (A a0)), (1, .int x1), (2, .int x2), (3, .int x3)]) hx hb dX6_isWriter_47 hl (k := 5) rfl rfl (by decide) rfl (fun ls hl => ?_)
            refine lv_goto (tgt := 6) hx hb dX6_isWriter_50 (by decide) ?_
            exact ih 0 (v5 + 1) hm H locs hw ls (lv_sub hl [2, 3, 4, 5, 1, 0] rfl)
          · have hm := (if_pos hq10).symm.trans hm
            refine lv_iconst (v := 1) hx hb dX6_isWriter_40 (by decide) ?_
            refine lv_goto (tgt := 45) hx hb dX6_isWriter_41 (by decide) ?_
            refine lv_istore (lv' := [(4, .int 1), (0, .ref (A a0)), (1, .int x1), (2, .int x2), (3, .int x3), (5, .int v5)]) hx hb dX6_isWriter_45 hl (by decide) rfl (fun ls hl => ?_)
            refine lv_iinc (v := (v5 + 1)) (lv' := [(5, .int (v5 + 1)), (4, .int 1), (0, .ref (A a0)), (1, .int x1), (2, .int x2), (3, .int x3)]) hx hb dX6_isWriter_47 hl (k := 5) rfl rfl (by decide) rfl (fun ls hl => ?_)
            refine lv_goto (tgt := 6) hx hb dX6_isWriter_50 (by decide) ?_
            exact ih 1 (v5 + 1) hm H locs hw ls (lv_sub hl [2, 3, 4, 5, 1, 0] rfl)
  unfold m_X6_isWriter at hm
  revert hw
  suffices K : ∀ (H : Heap) (locs : List Loc), WD D cy (Fr A G s.heap.size) A s.heap G M H locs → W p l e (headSpec (wm yX6_isWriter cX6_isWriter 6 (some .boolean)) ({ frames := 3, cells := 0, slots := 0, locals := 69 } : Room)).room s m ([.ref (A a0), .int x1, .int x2, .int x3] : List Value).toArray below meth c H locs 0 0 (MQ below (va_Qi (fun (r' : Int32) (u : Mem) => r' = z ∧ u = M) (Po D cy A G (Fr A G s.heap.size)) (Fr A G s.heap.size)) ([.ref (A a0), .int x1, .int x2, .int x3] : List Value).toArray s 0 0 (Fr A G s.heap.size)) (F0 m 0 ls []) from fun hw => K _ _ hw
  intro H locs hw
  refine lv_iconst (v := 0) hx hb dX6_isWriter_0 (by decide) ?_
  refine lv_istore (lv' := [(4, .int 0), (0, .ref (A a0)), (1, .int x1), (2, .int x2), (3, .int x3)]) hx hb dX6_isWriter_1 hl (by decide) rfl (fun ls hl => ?_)
  refine lv_iconst (v := 0) hx hb dX6_isWriter_3 (by decide) ?_
  refine lv_istore (lv' := [(5, .int 0), (4, .int 0), (0, .ref (A a0)), (1, .int x1), (2, .int x2), (3, .int x3)]) hx hb dX6_isWriter_4 hl (by decide) rfl (fun ls hl => ?_)
  exact J6 fuel 0 0 hm H locs hw ls (lv_sub hl [2, 3, 4, 5, 1, 0] rfl)
set_option maxHeartbeats 4000000 in
set_option maxRecDepth 100000 in
theorem c_X6_choose (l : Launch) {D : va_G} {cy : Nat → ClassId} {A : Nat → Nat} {G : Nat → Bool} {M : Mem} {sz : Nat} {a0 : Nat} {x1 : Int32} (h0 : TT G 5 a0)  {z : Int32} (hm : m_X6_choose a0 x1 M = some z) : Met l yX6_choose (wm yX6_choose cX6_choose 5 (some .int)) ({ frames := 1, cells := 0, slots := 0, locals := 23 } : Room) (va_Pc [.ref (A a0), .int x1] (Pr D cy A G M sz)) (va_Qi (fun (r' : Int32) (u : Mem) => r' = z ∧ u = M) (Po D cy A G (Fr A G sz)) (Fr A G sz))  0 0 (Fr A G sz) := by
  refine ofB (Qc := fun sz => va_Qi (fun (r' : Int32) (u : Mem) => r' = z ∧ u = M) (Po D cy A G (Fr A G sz)) (Fr A G sz)) (by decide +kernel) (Nat.le_of_ble_eq_true rfl) ?_
  intro p e s m below meth c hx hb hr hts hown hlocks hml hmn hK hw ls hl
  have hl : lv_has ls 5 [(0, .ref (A a0)), (1, .int x1)] := hl
  have J53 : ∀ (k4 : Int32 → Int32 → Option Int32) (jk4 : ∀ (v2 : Int32) (v3 : Int32), k4 v2 v3 = some z → ∀ (H : Heap) (locs : List Loc), WD D cy (Fr A G s.heap.size) A s.heap G M H locs → ∀ ls : Array Slot, lv_has ls 5 [(0, .ref (A a0)), (1, .int x1), (2, .int v2), (3, .int v3)] → W p l e (headSpec (wm yX6_choose cX6_choose 5 (some .int)) ({ frames := 1, cells := 0, slots := 0, locals := 23 } : Room)).room s m ([.ref (A a0), .int x1] : List Value).toArray below meth c H locs 0 0 (MQ below (va_Qi (fun (r' : Int32) (u : Mem) => r' = z ∧ u = M) (Po D cy A G (Fr A G s.heap.size)) (Fr A G s.heap.size)) ([.ref (A a0), .int x1] : List Value).toArray s 0 0 (Fr A G s.heap.size)) (F0 m 4 ls [])) (v2 : Int32) (v3 : Int32) (u0 : Int32), m_X6_choose_b53 a0 x1 M k4 v2 v3 u0 = some z → ∀ (H : Heap) (locs : List Loc), WD D cy (Fr A G s.heap.size) A s.heap G M H locs → ∀ ls : Array Slot, lv_has ls 5 [(0, .ref (A a0)), (1, .int x1), (2, .int v2), (3, .int v3)] → W p l e (headSpec (wm yX6_choose cX6_choose 5 (some .int)) ({ frames := 1, cells := 0, slots := 0, locals := 23 } : Room)).room s m ([.ref (A a0), .int x1] : List Value).toArray below meth c H locs 0 0 (MQ below (va_Qi (fun (r' : Int32) (u : Mem) => r' = z ∧ u = M) (Po D cy A G (Fr A G s.heap.size)) (Fr A G s.heap.size)) ([.ref (A a0), .int x1] : List Value).toArray s 0 0 (Fr A G s.heap.size)) (F0 m 53 ls [.int u0]) := by
    intro k4 jk4 v2 v3 u0 hm H locs hw ls hl
    unfold m_X6_choose_b53 at hm
    refine lv_istore (lv' := [(4, .int u0), (0, .ref (A a0)), (1, .int x1), (2, .int v2), (3, .int v3)]) hx hb dX6_choose_53 hl (by decide) rfl (fun ls hl => ?_)
    refine lv_iload hx hb dX6_choose_55 (lv_at hl 0 rfl) ?_
    refine lv_if_eq (tgt := 64) hx hb dX6_choose_57 (by decide) (fun hq7 => ?_) (fun hq7 => ?_)
    · have hm := (if_pos hq7).symm.trans hm
      refine lv_iload_n hx hb dX6_choose_64 rfl (lv_at hl 3 rfl) ?_
      refine lv_istore_n (lv' := [(2, .int v2), (4, .int u0), (0, .ref (A a0)), (1, .int x1), (3, .int v3)]) hx hb dX6_choose_65 rfl hl (by decide) rfl (fun ls hl => ?_)
      refine lv_iinc (v := (v3 + 1)) (lv' := [(3, .int (v3 + 1)), (2, .int v2), (4, .int u0), (0, .ref (A a0)), (1, .int x1)]) hx hb dX6_choose_66 hl (k := 4) rfl rfl (by decide) rfl (fun ls hl => ?_)
      refine lv_goto (tgt := 4) hx hb dX6_choose_69 (by decide) ?_
      exact jk4 v2 (v3 + 1) hm H locs hw ls (lv_sub hl [3, 4, 1, 0] rfl)
    · have hm := (if_neg hq7).symm.trans hm
      refine lv_iload_n hx hb dX6_choose_60 rfl (lv_at hl 4 rfl) ?_
      refine lv_goto (tgt := 65) hx hb dX6_choose_61 (by decide) ?_
      refine lv_istore_n (lv' := [(2, .int v3), (4, .int u0), (0, .ref (A a0)), (1, .int x1), (3, .int v3)]) hx hb dX6_choose_65 rfl hl (by decide) rfl (fun ls hl => ?_)
      refine lv_iinc (v := (v3 + 1)) (lv' := [(3, .int (v3 + 1)), (2, .int v3), (4, .int u0), (0, .ref (A a0)), (1, .int x1)]) hx hb dX6_choose_66 hl (k := 4) rfl rfl (by decide) rfl (fun ls hl => ?_)
      refine lv_goto (tgt := 4) hx hb dX6_choose_69 (by decide) ?_
      exact jk4 v3 (v3 + 1) hm H locs hw ls (lv_sub hl [3, 4, 1, 0] rfl)
  have J4 : ∀  (n : Nat) (v2 : Int32) (v3 : Int32), m_X6_choose_L4 a0 x1 M n v2 v3 = some z → ∀ (H : Heap) (locs : List Loc), WD D cy (Fr A G s.heap.size) A s.heap G M H locs → ∀ ls : Array Slot, lv_has ls 5 [(0, .ref (A a0)), (1, .int x1), (2, .int v2), (3, .int v3)] → W p l e (headSpec (wm yX6_choose cX6_choose 5 (some .int)) ({ frames := 1, cells := 0, slots := 0, locals := 23 } : Room)).room s m ([.ref (A a0), .int x1] : List Value).toArray below meth c H locs 0 0 (MQ below (va_Qi (fun (r' : Int32) (u : Mem) => r' = z ∧ u = M) (Po D cy A G (Fr A G s.heap.size)) (Fr A G s.heap.size)) ([.ref (A a0), .int x1] : List Value).toArray s 0 0 (Fr A G s.heap.size)) (F0 m 4 ls []) := by
    intro n
    induction n with
    | zero =>
      intro v2 v3 hm
      cases (show (none : Option Int32) = some z from hm)
    | succ n ih =>
      intro v2 v3 hm H locs hw ls hl
      have hm := (m_X6_choose_L4_s a0 x1 M n v2 v3).symm.trans hm
      refine lv_iload_n hx hb dX6_choose_4 rfl (lv_at hl 3 rfl) ?_
      refine lv_aload_n hx hb dX6_choose_5 rfl (lv_at hl 0 rfl) ?_
      refine g5 hx hb hts hown hK hw h0 0 (by decide) (.ref (A 4)) rfl k_fl_RX6_7 (fun _ h => h) dX6_choose_6 ?_
      have hp1 := mo_s h0
      refine lv_iconst (v := 0) hx hb dX6_choose_9 (by decide) ?_
      obtain ⟨hi2, hm⟩ := ck_some hm
      refine gI hx hb hK hw hp1 hi2 dX6_choose_10 ?_
      refine lv_icmp_ge (tgt := 72) hx hb dX6_choose_11 (by decide) (fun hq3 => ?_) (fun hq3 => ?_)
      · have hm := (if_pos hq3).symm.trans hm
        refine lv_iload_n hx hb dX6_choose_72 rfl (lv_at hl 2 rfl) ?_
        cases hm
        exact eI hx hb hr hlocks hK hw dX6_choose_73
      · have hm := (if_neg hq3).symm.trans hm
        refine lv_aload_n hx hb dX6_choose_14 rfl (lv_at hl 0 rfl) ?_
        refine lv_iload_n hx hb dX6_choose_15 rfl (lv_at hl 3 rfl) ?_
        obtain ⟨z4, e5, hm⟩ := bd_some hm
        refine ki hw Fr_hi (rV hx hb hml hts hown hK hw (c_X6_isUp l h0 e5) h0 (by decide) rfl (mkV 1 hts k_ml_RX6_45 k_im_yX6_isUp k_se_yX6_isUp k_in_RX6 k_co_yX6_isUp hd_X6_isUp ⟨Nat.le_of_ble_eq_true rfl, Nat.le_of_ble_eq_true rfl⟩) rfl hl.1 rfl (Nat.le_of_ble_eq_true rfl) dX6_choose_16 ⟨Nat.le_of_ble_eq_true rfl, Nat.le_of_ble_eq_true rfl⟩) (fun H locs hw => ?_)
        refine lv_if_eq (tgt := 52) hx hb dX6_choose_19 (by decide) (fun hq6 => ?_) (fun hq6 => ?_)
        · have hm := (if_pos hq6).symm.trans hm
          refine lv_iconst (v := 0) hx hb dX6_choose_52 (by decide) ?_
          exact J53 (fun w0 w1 => m_X6_choose_L4 a0 x1 M n w0 w1) (fun w0 w1 hh H locs hw ls hl => ih w0 w1 hh H locs hw ls hl) v2 v3 0 hm H locs hw ls hl
        · have hm := (if_neg hq6).symm.trans hm
          refine lv_iload_n hx hb dX6_choose_22 rfl (lv_at hl 1 rfl) ?_
          refine lv_iload_n hx hb dX6_choose_23 rfl (lv_at hl 3 rfl) ?_
          refine ki hw Fr_hi (rS hx hb hml hts hown hK hw (c_X6_has l x1 v3) (mkS 2 hts k_ml_RX6_49 k_st_yX6_has k_in_RX6 k_co_yX6_has hd_X6_has ⟨Nat.le_of_ble_eq_true rfl, Nat.le_of_ble_eq_true rfl⟩) rfl hl.1 rfl (Nat.le_of_ble_eq_true rfl) dX6_choose_24 ⟨Nat.le_of_ble_eq_true rfl, Nat.le_of_ble_eq_true rfl⟩) (fun H locs hw => ?_)
          refine lv_if_ne (tgt := 52) hx hb dX6_choose_27 (by decide) (fun hq8 => ?_) (fun hq8 => ?_)
          · have hm := (if_neg hq8).symm.trans hm
            refine lv_iconst (v := 0) hx hb dX6_choose_52 (by decide) ?_
            exact J53 (fun w0 w1 => m_X6_choose_L4 a0 x1 M n w0 w1) (fun w0 w1 hh H locs hw ls hl => ih w0 w1 hh H locs hw ls hl) v2 v3 0 hm H locs hw ls hl
          · have hm := (if_pos hq8).symm.trans hm
            refine lv_iload_n hx hb dX6_choose_30 rfl (lv_at hl 2 rfl) ?_
            refine lv_iconst (v := (-1)) hx hb dX6_choose_31 (by decide) ?_
            refine lv_icmp_eq (tgt := 48) hx hb dX6_choose_32 (by decide) (fun hq9 => ?_) (fun hq9 => ?_)
            · have hm := (if_pos hq9).symm.trans hm
              refine lv_iconst (v := 1) hx hb dX6_choose_48 (by decide) ?_
              refine lv_goto (tgt := 53) hx hb dX6_choose_49 (by decide) ?_
              exact J53 (fun w0 w1 => m_X6_choose_L4 a0 x1 M n w0 w1) (fun w0 w1 hh H locs hw ls hl => ih w0 w1 hh H locs hw ls hl) v2 v3 1 hm H locs hw ls hl
            · have hm := (if_neg hq9).symm.trans hm
              refine lv_aload_n hx hb dX6_choose_35 rfl (lv_at hl 0 rfl) ?_
              refine lv_iload_n hx hb dX6_choose_36 rfl (lv_at hl 3 rfl) ?_
              obtain ⟨z10, e11, hm⟩ := bd_some hm
              refine ki hw Fr_hi (rV hx hb hml hts hown hK hw (c_X6_weightOf l h0 e11) h0 (by decide) rfl (mkV 1 hts k_ml_RX6_53 k_im_yX6_weightOf k_se_yX6_weightOf k_in_RX6 k_co_yX6_weightOf hd_X6_weightOf ⟨Nat.le_of_ble_eq_true rfl, Nat.le_of_ble_eq_true rfl⟩) rfl hl.1 rfl (Nat.le_of_ble_eq_true rfl) dX6_choose_37 ⟨Nat.le_of_ble_eq_true rfl, Nat.le_of_ble_eq_true rfl⟩) (fun H locs hw => ?_)
              refine lv_aload_n hx hb dX6_choose_40 rfl (lv_at hl 0 rfl) ?_
              refine lv_iload_n hx hb dX6_choose_41 rfl (lv_at hl 2 rfl) ?_
              obtain ⟨z12, e13, hm⟩ := bd_some hm
              refine ki hw Fr_hi (rV hx hb hml hts hown hK hw (c_X6_weightOf l h0 e13) h0 (by decide) rfl (mkV 1 hts k_ml_RX6_53 k_im_yX6_weightOf k_se_yX6_weightOf k_in_RX6 k_co_yX6_weightOf hd_X6_weightOf ⟨Nat.le_of_ble_eq_true rfl, Nat.le_of_ble_eq_true rfl⟩) rfl hl.1 rfl (Nat.le_of_ble_eq_true rfl) dX6_choose_42 ⟨Nat.le_of_ble_eq_true rfl, Nat.le_of_ble_eq_true rfl⟩) (fun H locs hw => ?_)
              refine lv_icmp_ge (tgt := 52) hx hb dX6_choose_45 (by decide) (fun hq14 => ?_) (fun hq14 => ?_)
              · have hm := (if_pos hq14).symm.trans hm
                refine lv_iconst (v := 0) hx hb dX6_choose_52 (by decide) ?_
                exact J53 (fun w0 w1 => m_X6_choose_L4 a0 x1 M n w0 w1) (fun w0 w1 hh H locs hw ls hl => ih w0 w1 hh H locs hw ls hl) v2 v3 0 hm H locs hw ls hl
              · have hm := (if_neg hq14).symm.trans hm
                refine lv_iconst (v := 1) hx hb dX6_choose_48 (by decide) ?_
                refine lv_goto (tgt := 53) hx hb dX6_choose_49 (by decide) ?_
                exact J53 (fun w0 w1 => m_X6_choose_L4 a0 x1 M n w0 w1) (fun w0 w1 hh H locs hw ls hl => ih w0 w1 hh H locs hw ls hl) v2 v3 1 hm H locs hw ls hl
  unfold m_X6_choose at hm
  revert hw
  suffices K : ∀ (H : Heap) (locs : List Loc), WD D cy (Fr A G s.heap.size) A s.heap G M H locs → W p l e (headSpec (wm yX6_choose cX6_choose 5 (some .int)) ({ frames := 1, cells := 0, slots := 0, locals := 23 } : Room)).room s m ([.ref (A a0), .int x1] : List Value).toArray below meth c H locs 0 0 (MQ below (va_Qi (fun (r' : Int32) (u : Mem) => r' = z ∧ u = M) (Po D cy A G (Fr A G s.heap.size)) (Fr A G s.heap.size)) ([.ref (A a0), .int x1] : List Value).toArray s 0 0 (Fr A G s.heap.size)) (F0 m 0 ls []) from fun hw => K _ _ hw
  intro H locs hw
  refine lv_iconst (v := (-1)) hx hb dX6_choose_0 (by decide) ?_
  refine lv_istore_n (lv' := [(2, .int (-1)), (0, .ref (A a0)), (1, .int x1)]) hx hb dX6_choose_1 rfl hl (by decide) rfl (fun ls hl => ?_)
  refine lv_iconst (v := 0) hx hb dX6_choose_2 (by decide) ?_
  refine lv_istore_n (lv' := [(3, .int 0), (2, .int (-1)), (0, .ref (A a0)), (1, .int x1)]) hx hb dX6_choose_3 rfl hl (by decide) rfl (fun ls hl => ?_)
  exact J4 fuel (-1) 0 hm H locs hw ls (lv_sub hl [2, 3, 1, 0] rfl)
set_option maxHeartbeats 4000000 in
set_option maxRecDepth 100000 in
theorem c_X6_confirmed (l : Launch) {D : va_G} {cy : Nat → ClassId} {A : Nat → Nat} {G : Nat → Bool} {M : Mem} {sz : Nat} {a0 : Nat} {x1 : Int32} (h0 : TT G 5 a0)  {z : Int32} (hm : m_X6_confirmed a0 x1 M = some z) : Met l yX6_confirmed (wm yX6_confirmed cX6_confirmed 3 (some .int)) ({ frames := 1, cells := 0, slots := 0, locals := 22 } : Room) (va_Pc [.ref (A a0), .int x1] (Pr D cy A G M sz)) (va_Qi (fun (r' : Int32) (u : Mem) => r' = z ∧ u = M) (Po D cy A G (Fr A G sz)) (Fr A G sz))  0 0 (Fr A G sz) := by
  refine ofB (Qc := fun sz => va_Qi (fun (r' : Int32) (u : Mem) => r' = z ∧ u = M) (Po D cy A G (Fr A G sz)) (Fr A G sz)) (by decide +kernel) (Nat.le_of_ble_eq_true rfl) ?_
  intro p e s m below meth c hx hb hr hts hown hlocks hml hmn hK hw ls hl
  have hl : lv_has ls 3 [(0, .ref (A a0)), (1, .int x1)] := hl
  have J2 : ∀  (n : Nat) (v2 : Int32), m_X6_confirmed_L2 a0 x1 M n v2 = some z → ∀ (H : Heap) (locs : List Loc), WD D cy (Fr A G s.heap.size) A s.heap G M H locs → ∀ ls : Array Slot, lv_has ls 3 [(0, .ref (A a0)), (1, .int x1), (2, .int v2)] → W p l e (headSpec (wm yX6_confirmed cX6_confirmed 3 (some .int)) ({ frames := 1, cells := 0, slots := 0, locals := 22 } : Room)).room s m ([.ref (A a0), .int x1] : List Value).toArray below meth c H locs 0 0 (MQ below (va_Qi (fun (r' : Int32) (u : Mem) => r' = z ∧ u = M) (Po D cy A G (Fr A G s.heap.size)) (Fr A G s.heap.size)) ([.ref (A a0), .int x1] : List Value).toArray s 0 0 (Fr A G s.heap.size)) (F0 m 2 ls []) := by
    intro n
    induction n with
    | zero =>
      intro v2 hm
      cases (show (none : Option Int32) = some z from hm)
    | succ n ih =>
      intro v2 hm H locs hw ls hl
      have hm := (m_X6_confirmed_L2_s a0 x1 M n v2).symm.trans hm
      refine lv_iload_n hx hb dX6_confirmed_2 rfl (lv_at hl 2 rfl) ?_
      refine lv_aload_n hx hb dX6_confirmed_3 rfl (lv_at hl 0 rfl) ?_
      refine lv_iload_n hx hb dX6_confirmed_4 rfl (lv_at hl 1 rfl) ?_
      refine lv_iconst (v := 4) hx hb dX6_confirmed_5 (by decide) ?_
      obtain ⟨z1, e2, hm⟩ := bd_some hm
      refine ki hw Fr_hi (rV hx hb hml hts hown hK hw (c_X6_of l h0 e2) h0 (by decide) rfl (mkV 2 hts k_ml_RX6_31 k_im_yX6_of k_se_yX6_of k_in_RX6 k_co_yX6_of hd_X6_of ⟨Nat.le_of_ble_eq_true rfl, Nat.le_of_ble_eq_true rfl⟩) rfl hl.1 rfl (Nat.le_of_ble_eq_true rfl) dX6_confirmed_6 ⟨Nat.le_of_ble_eq_true rfl, Nat.le_of_ble_eq_true rfl⟩) (fun H locs hw => ?_)
      refine lv_icmp_ge (tgt := 39) hx hb dX6_confirmed_9 (by decide) (fun hq3 => ?_) (fun hq3 => ?_)
      · have hm := (if_pos hq3).symm.trans hm
        refine lv_iload_n hx hb dX6_confirmed_39 rfl (lv_at hl 2 rfl) ?_
        refine lv_iconst (v := 1) hx hb dX6_confirmed_40 (by decide) ?_
        refine lv_isub hx hb dX6_confirmed_41 ?_
        cases hm
        exact eI hx hb hr hlocks hK hw dX6_confirmed_42
      · have hm := (if_neg hq3).symm.trans hm
        refine lv_aload_n hx hb dX6_confirmed_12 rfl (lv_at hl 0 rfl) ?_
        refine lv_iload_n hx hb dX6_confirmed_13 rfl (lv_at hl 1 rfl) ?_
        refine lv_bipush (v := 47) hx hb dX6_confirmed_14 (by decide) ?_
        refine lv_iload_n hx hb dX6_confirmed_16 rfl (lv_at hl 2 rfl) ?_
        refine lv_iadd hx hb dX6_confirmed_17 ?_
        obtain ⟨z4, e5, hm⟩ := bd_some hm
        refine ki hw Fr_hi (rV hx hb hml hts hown hK hw (c_X6_of l h0 e5) h0 (by decide) rfl (mkV 2 hts k_ml_RX6_31 k_im_yX6_of k_se_yX6_of k_in_RX6 k_co_yX6_of hd_X6_of ⟨Nat.le_of_ble_eq_true rfl, Nat.le_of_ble_eq_true rfl⟩) rfl hl.1 rfl (Nat.le_of_ble_eq_true rfl) dX6_confirmed_18 ⟨Nat.le_of_ble_eq_true rfl, Nat.le_of_ble_eq_true rfl⟩) (fun H locs hw => ?_)
        obtain ⟨z6, e7, hm⟩ := bd_some hm
        refine ki hw Fr_hi (rS hx hb hml hts hown hK hw (c_X6_count l e7) (mkS 1 hts k_ml_RX6_57 k_st_yX6_count k_in_RX6 k_co_yX6_count hd_X6_count ⟨Nat.le_of_ble_eq_true rfl, Nat.le_of_ble_eq_true rfl⟩) rfl hl.1 rfl (Nat.le_of_ble_eq_true rfl) dX6_confirmed_21 ⟨Nat.le_of_ble_eq_true rfl, Nat.le_of_ble_eq_true rfl⟩) (fun H locs hw => ?_)
        refine lv_aload_n hx hb dX6_confirmed_24 rfl (lv_at hl 0 rfl) ?_
        refine lv_iload_n hx hb dX6_confirmed_25 rfl (lv_at hl 1 rfl) ?_
        refine lv_iconst (v := 2) hx hb dX6_confirmed_26 (by decide) ?_
        obtain ⟨z8, e9, hm⟩ := bd_some hm
        refine ki hw Fr_hi (rV hx hb hml hts hown hK hw (c_X6_of l h0 e9) h0 (by decide) rfl (mkV 2 hts k_ml_RX6_31 k_im_yX6_of k_se_yX6_of k_in_RX6 k_co_yX6_of hd_X6_of ⟨Nat.le_of_ble_eq_true rfl, Nat.le_of_ble_eq_true rfl⟩) rfl hl.1 rfl (Nat.le_of_ble_eq_true rfl) dX6_confirmed_27 ⟨Nat.le_of_ble_eq_true rfl, Nat.le_of_ble_eq_true rfl⟩) (fun H locs hw => ?_)
        refine lv_icmp_lt (tgt := 39) hx hb dX6_confirmed_30 (by decide) (fun hq10 => ?_) (fun hq10 => ?_)
        · have hm := (if_pos hq10).symm.trans hm
          refine lv_iload_n hx hb dX6_confirmed_39 rfl (lv_at hl 2 rfl) ?_
          refine lv_iconst (v := 1) hx hb dX6_confirmed_40 (by decide) ?_
          refine lv_isub hx hb dX6_confirmed_41 ?_
          cases hm
          exact eI hx hb hr hlocks hK hw dX6_confirmed_42
        · have hm := (if_neg hq10).symm.trans hm
          refine lv_iinc (v := (v2 + 1)) (lv' := [(2, .int (v2 + 1)), (0, .ref (A a0)), (1, .int x1)]) hx hb dX6_confirmed_33 hl (k := 2) rfl rfl (by decide) rfl (fun ls hl => ?_)
          refine lv_goto (tgt := 2) hx hb dX6_confirmed_36 (by decide) ?_
          exact ih (v2 + 1) hm H locs hw ls (lv_sub hl [1, 2, 0] rfl)
  unfold m_X6_confirmed at hm
  revert hw
  suffices K : ∀ (H : Heap) (locs : List Loc), WD D cy (Fr A G s.heap.size) A s.heap G M H locs → W p l e (headSpec (wm yX6_confirmed cX6_confirmed 3 (some .int)) ({ frames := 1, cells := 0, slots := 0, locals := 22 } : Room)).room s m ([.ref (A a0), .int x1] : List Value).toArray below meth c H locs 0 0 (MQ below (va_Qi (fun (r' : Int32) (u : Mem) => r' = z ∧ u = M) (Po D cy A G (Fr A G s.heap.size)) (Fr A G s.heap.size)) ([.ref (A a0), .int x1] : List Value).toArray s 0 0 (Fr A G s.heap.size)) (F0 m 0 ls []) from fun hw => K _ _ hw
  intro H locs hw
  refine lv_iconst (v := 0) hx hb dX6_confirmed_0 (by decide) ?_
  refine lv_istore_n (lv' := [(2, .int 0), (0, .ref (A a0)), (1, .int x1)]) hx hb dX6_confirmed_1 rfl hl (by decide) rfl (fun ls hl => ?_)
  exact J2 fuel 0 hm H locs hw ls (lv_sub hl [1, 2, 0] rfl)
set_option maxHeartbeats 4000000 in
set_option maxRecDepth 100000 in
theorem c_X6_readable (l : Launch) {D : va_G} {cy : Nat → ClassId} {A : Nat → Nat} {G : Nat → Bool} {M : Mem} {sz : Nat} {a0 : Nat} {x1 : Int32} (h0 : TT G 5 a0)  {z : Int32} (hm : m_X6_readable a0 x1 M = some z) : Met l yX6_readable (wm yX6_readable cX6_readable 3 (some .int)) ({ frames := 2, cells := 0, slots := 0, locals := 44 } : Room) (va_Pc [.ref (A a0), .int x1] (Pr D cy A G M sz)) (va_Qi (fun (r' : Int32) (u : Mem) => r' = z ∧ u = M) (Po D cy A G (Fr A G sz)) (Fr A G sz))  0 0 (Fr A G sz) := by
  refine ofB (Qc := fun sz => va_Qi (fun (r' : Int32) (u : Mem) => r' = z ∧ u = M) (Po D cy A G (Fr A G sz)) (Fr A G sz)) (by decide +kernel) (Nat.le_of_ble_eq_true rfl) ?_
  intro p e s m below meth c hx hb hr hts hown hlocks hml hmn hK hw ls hl
  have hl : lv_has ls 3 [(0, .ref (A a0)), (1, .int x1)] := hl
  unfold m_X6_readable at hm
  revert hw
  suffices K : ∀ (H : Heap) (locs : List Loc), WD D cy (Fr A G s.heap.size) A s.heap G M H locs → W p l e (headSpec (wm yX6_readable cX6_readable 3 (some .int)) ({ frames := 2, cells := 0, slots := 0, locals := 44 } : Room)).room s m ([.ref (A a0), .int x1] : List Value).toArray below meth c H locs 0 0 (MQ below (va_Qi (fun (r' : Int32) (u : Mem) => r' = z ∧ u = M) (Po D cy A G (Fr A G s.heap.size)) (Fr A G s.heap.size)) ([.ref (A a0), .int x1] : List Value).toArray s 0 0 (Fr A G s.heap.size)) (F0 m 0 ls []) from fun hw => K _ _ hw
  intro H locs hw
  refine lv_aload_n hx hb dX6_readable_0 rfl (lv_at hl 0 rfl) ?_
  refine lv_iload_n hx hb dX6_readable_1 rfl (lv_at hl 1 rfl) ?_
  refine lv_iconst (v := 3) hx hb dX6_readable_2 (by decide) ?_
  obtain ⟨z1, e2, hm⟩ := bd_some hm
  refine ki hw Fr_hi (rV hx hb hml hts hown hK hw (c_X6_of l h0 e2) h0 (by decide) rfl (mkV 2 hts k_ml_RX6_31 k_im_yX6_of k_se_yX6_of k_in_RX6 k_co_yX6_of hd_X6_of ⟨Nat.le_of_ble_eq_true rfl, Nat.le_of_ble_eq_true rfl⟩) rfl hl.1 rfl (Nat.le_of_ble_eq_true rfl) dX6_readable_3 ⟨Nat.le_of_ble_eq_true rfl, Nat.le_of_ble_eq_true rfl⟩) (fun H locs hw => ?_)
  refine lv_istore_n (lv' := [(2, .int z1), (0, .ref (A a0)), (1, .int x1)]) hx hb dX6_readable_6 rfl hl (by decide) rfl (fun ls hl => ?_)
  refine lv_iload_n hx hb dX6_readable_7 rfl (lv_at hl 0 rfl) ?_
  refine lv_if_ne (tgt := 19) hx hb dX6_readable_8 (by decide) (fun hq3 => ?_) (fun hq3 => ?_)
  · have hm := (if_neg hq3).symm.trans hm
    refine lv_iload_n hx hb dX6_readable_19 rfl (lv_at hl 0 rfl) ?_
    refine lv_iconst (v := 2) hx hb dX6_readable_20 (by decide) ?_
    refine lv_icmp_ne (tgt := 33) hx hb dX6_readable_21 (by decide) (fun hq4 => ?_) (fun hq4 => ?_)
    · have hm := (if_neg hq4).symm.trans hm
      refine lv_iconst (v := (-1)) hx hb dX6_readable_33 (by decide) ?_
      cases hm
      exact eI hx hb hr hlocks hK hw dX6_readable_34
    · have hm := (if_pos hq4).symm.trans hm
      refine lv_aload_n hx hb dX6_readable_24 rfl (lv_at hl 1 rfl) ?_
      refine lv_iload_n hx hb dX6_readable_25 rfl (lv_at hl 2 rfl) ?_
      refine lv_iconst (v := 5) hx hb dX6_readable_26 (by decide) ?_
      obtain ⟨z5, e6, hm⟩ := bd_some hm
      refine ki hw Fr_hi (rV hx hb hml hts hown hK hw (c_X6_of l h0 e6) h0 (by decide) rfl (mkV 2 hts k_ml_RX6_31 k_im_yX6_of k_se_yX6_of k_in_RX6 k_co_yX6_of hd_X6_of ⟨Nat.le_of_ble_eq_true rfl, Nat.le_of_ble_eq_true rfl⟩) rfl hl.1 rfl (Nat.le_of_ble_eq_true rfl) dX6_readable_27 ⟨Nat.le_of_ble_eq_true rfl, Nat.le_of_ble_eq_true rfl⟩) (fun H locs hw => ?_)
      refine lv_goto (tgt := 34) hx hb dX6_readable_30 (by decide) ?_
      cases hm
      exact eI hx hb hr hlocks hK hw dX6_readable_34
  · have hm := (if_pos hq3).symm.trans hm
    refine lv_aload_n hx hb dX6_readable_11 rfl (lv_at hl 1 rfl) ?_
    refine lv_iload_n hx hb dX6_readable_12 rfl (lv_at hl 2 rfl) ?_
    obtain ⟨z7, e8, hm⟩ := bd_some hm
    refine ki hw Fr_hi (rV hx hb hml hts hown hK hw (c_X6_confirmed l h0 e8) h0 (by decide) rfl (mkV 1 hts k_ml_RX6_60 k_im_yX6_confirmed k_se_yX6_confirmed k_in_RX6 k_co_yX6_confirmed hd_X6_confirmed ⟨Nat.le_of_ble_eq_true rfl, Nat.le_of_ble_eq_true rfl⟩) rfl hl.1 rfl (Nat.le_of_ble_eq_true rfl) dX6_readable_13 ⟨Nat.le_of_ble_eq_true rfl, Nat.le_of_ble_eq_true rfl⟩) (fun H locs hw => ?_)
    refine lv_goto (tgt := 34) hx hb dX6_readable_16 (by decide) ?_
    cases hm
    exact eI hx hb hr hlocks hK hw dX6_readable_34
set_option maxHeartbeats 4000000 in
set_option maxRecDepth 100000 in
theorem c_X6_addNode (l : Launch) {D : va_G} {cy : Nat → ClassId} {A : Nat → Nat} {G : Nat → Bool} {M : Mem} {sz : Nat} {a0 : Nat} (h0 : TT G 5 a0)  {z : (Int32 × Mem)} (hm : m_X6_addNode a0 M = some z) : Met l yX6_addNode (wm yX6_addNode cX6_addNode 1 (some .int)) ({ frames := 1, cells := 0, slots := 0, locals := 21 } : Room) (va_Pc [.ref (A a0)] (Pr D cy A G M sz)) (va_Qi (fun (r' : Int32) (u : Mem) => r' = z.1 ∧ u = z.2) (Po D cy A G (Fr A G sz)) (Fr A G sz))  0 0 (Fr A G sz) := by
  refine ofB (Qc := fun sz => va_Qi (fun (r' : Int32) (u : Mem) => r' = z.1 ∧ u = z.2) (Po D cy A G (Fr A G sz)) (Fr A G sz)) (by decide +kernel) (Nat.le_of_ble_eq_true rfl) ?_
  intro p e s m below meth c hx hb hr hts hown hlocks hml hmn hK hw ls hl
  have hl : lv_has ls 1 [(0, .ref (A a0))] := hl
  have J17 : ∀  (u0 : Nat) (u1 : Int32) (M : Mem) (hu0 : TT G 5 u0), m_X6_addNode_b17 a0 u0 u1 M = some z → ∀ (H : Heap) (locs : List Loc), WD D cy (Fr A G s.heap.size) A s.heap G M H locs → ∀ ls : Array Slot, lv_has ls 1 [(0, .ref (A a0))] → W p l e (headSpec (wm yX6_addNode cX6_addNode 1 (some .int)) ({ frames := 1, cells := 0, slots := 0, locals := 21 } : Room)).room s m ([.ref (A a0)] : List Value).toArray below meth c H locs 0 0 (MQ below (va_Qi (fun (r' : Int32) (u : Mem) => r' = z.1 ∧ u = z.2) (Po D cy A G (Fr A G s.heap.size)) (Fr A G s.heap.size)) ([.ref (A a0)] : List Value).toArray s 0 0 (Fr A G s.heap.size)) (F0 m 17 ls [.int u1, .ref (A u0)]) := by
    intro u0 u1 M hu0 hm H locs hw ls hl
    unfold m_X6_addNode_b17 at hm
    refine p5 hx hb hts hown hK hw hu0 3 (by decide) k_fl_RX6_20 (fun _ h => h) dX6_addNode_17 (fun H locs hw => ?_)
    refine lv_aload_n hx hb dX6_addNode_20 rfl (lv_at hl 0 rfl) ?_
    refine g5 hx hb hts hown hK hw h0 3 (by decide) (.int (gF (sF u0 3 u1 M) a0 3)) rfl k_fl_RX6_20 (fun _ h => h) dX6_addNode_21 ?_
    refine lv_if_le (tgt := 29) hx hb dX6_addNode_24 (by decide) (fun hq4 => ?_) (fun hq4 => ?_)
    · have hm := (if_pos hq4).symm.trans hm
      refine lv_aload_n hx hb dX6_addNode_29 rfl (lv_at hl 0 rfl) ?_
      obtain ⟨z5, e6, hm⟩ := bd_some hm
      refine kv hw Fr_hi (rV hx hb hml hts hown hK hw (c_X6_note l h0 e6) h0 (by decide) rfl (mkV 0 hts k_ml_RX6_63 k_im_yX6_note k_se_yX6_note k_in_RX6 k_co_yX6_note hd_X6_note ⟨Nat.le_of_ble_eq_true rfl, Nat.le_of_ble_eq_true rfl⟩) rfl hl.1 rfl (Nat.le_of_ble_eq_true rfl) dX6_addNode_30 ⟨Nat.le_of_ble_eq_true rfl, Nat.le_of_ble_eq_true rfl⟩) (fun H locs hw => ?_)
      refine lv_aload_n hx hb dX6_addNode_33 rfl (lv_at hl 0 rfl) ?_
      refine g5 hx hb hts hown hK hw h0 0 (by decide) (.ref (A 4)) rfl k_fl_RX6_7 (fun _ h => h) dX6_addNode_34 ?_
      have hp7 := mo_s h0
      refine lv_iconst (v := 3) hx hb dX6_addNode_37 (by decide) ?_
      refine lv_aload_n hx hb dX6_addNode_38 rfl (lv_at hl 0 rfl) ?_
      refine g5 hx hb hts hown hK hw h0 0 (by decide) (.ref (A 4)) rfl k_fl_RX6_7 (fun _ h => h) dX6_addNode_39 ?_
      have hp8 := mo_s h0
      refine lv_iconst (v := 0) hx hb dX6_addNode_42 (by decide) ?_
      obtain ⟨hi9, hm⟩ := ck_some hm
      refine gI hx hb hK hw hp8 hi9 dX6_addNode_43 ?_
      refine lv_iadd hx hb dX6_addNode_44 ?_
      refine lv_iconst (v := 1) hx hb dX6_addNode_45 (by decide) ?_
      obtain ⟨hi10, hm⟩ := ck_some hm
      refine pI hx hb hK hw hp7 hi10 dX6_addNode_46 (fun H locs hw => ?_)
      refine lv_aload_n hx hb dX6_addNode_47 rfl (lv_at hl 0 rfl) ?_
      refine g5 hx hb hts hown hK hw h0 0 (by decide) (.ref (A 4)) rfl k_fl_RX6_7 (fun _ h => h) dX6_addNode_48 ?_
      have hp11 := mo_s h0
      refine lv_iconst (v := 0) hx hb dX6_addNode_51 (by decide) ?_
      refine lv_dup2_11 hx hb dX6_addNode_52 rfl rfl ?_
      obtain ⟨hi12, hm⟩ := ck_some hm
      refine gI hx hb hK hw hp11 hi12 dX6_addNode_53 ?_
      refine lv_iconst (v := 1) hx hb dX6_addNode_54 (by decide) ?_
      refine lv_iadd hx hb dX6_addNode_55 ?_
      obtain ⟨hi13, hm⟩ := ck_some hm
      refine pI hx hb hK hw hp11 hi13 dX6_addNode_56 (fun H locs hw => ?_)
      refine lv_aload_n hx hb dX6_addNode_57 rfl (lv_at hl 0 rfl) ?_
      refine g5 hx hb hts hown hK hw h0 0 (by decide) (.ref (A 4)) rfl k_fl_RX6_7 (fun _ h => h) dX6_addNode_58 ?_
      have hp14 := mo_s h0
      refine lv_iconst (v := 0) hx hb dX6_addNode_61 (by decide) ?_
      obtain ⟨hi15, hm⟩ := ck_some hm
      refine gI hx hb hK hw hp14 hi15 dX6_addNode_62 ?_
      refine lv_iconst (v := 1) hx hb dX6_addNode_63 (by decide) ?_
      refine lv_isub hx hb dX6_addNode_64 ?_
      cases hm
      exact eI hx hb hr hlocks hK hw dX6_addNode_65
    · have hm := (if_neg hq4).symm.trans hm
      refine lv_iconst (v := 0) hx hb dX6_addNode_27 (by decide) ?_
      cases hm
      exact eI hx hb hr hlocks hK hw dX6_addNode_28
  unfold m_X6_addNode at hm
  revert hw
  suffices K : ∀ (H : Heap) (locs : List Loc), WD D cy (Fr A G s.heap.size) A s.heap G M H locs → W p l e (headSpec (wm yX6_addNode cX6_addNode 1 (some .int)) ({ frames := 1, cells := 0, slots := 0, locals := 21 } : Room)).room s m ([.ref (A a0)] : List Value).toArray below meth c H locs 0 0 (MQ below (va_Qi (fun (r' : Int32) (u : Mem) => r' = z.1 ∧ u = z.2) (Po D cy A G (Fr A G s.heap.size)) (Fr A G s.heap.size)) ([.ref (A a0)] : List Value).toArray s 0 0 (Fr A G s.heap.size)) (F0 m 0 ls []) from fun hw => K _ _ hw
  intro H locs hw
  refine lv_aload_n hx hb dX6_addNode_0 rfl (lv_at hl 0 rfl) ?_
  refine lv_aload_n hx hb dX6_addNode_1 rfl (lv_at hl 0 rfl) ?_
  refine g5 hx hb hts hown hK hw h0 0 (by decide) (.ref (A 4)) rfl k_fl_RX6_7 (fun _ h => h) dX6_addNode_2 ?_
  have hp1 := mo_s h0
  refine lv_iconst (v := 0) hx hb dX6_addNode_5 (by decide) ?_
  obtain ⟨hi2, hm⟩ := ck_some hm
  refine gI hx hb hK hw hp1 hi2 dX6_addNode_6 ?_
  refine lv_bipush (v := 8) hx hb dX6_addNode_7 (by decide) ?_
  refine lv_icmp_ne (tgt := 16) hx hb dX6_addNode_9 (by decide) (fun hq3 => ?_) (fun hq3 => ?_)
  · have hm := (if_neg hq3).symm.trans hm
    refine lv_iconst (v := 0) hx hb dX6_addNode_16 (by decide) ?_
    exact J17 a0 0 M h0 hm H locs hw ls hl
  · have hm := (if_pos hq3).symm.trans hm
    refine lv_iconst (v := 1) hx hb dX6_addNode_12 (by decide) ?_
    refine lv_goto (tgt := 17) hx hb dX6_addNode_13 (by decide) ?_
    exact J17 a0 1 M h0 hm H locs hw ls hl
set_option maxHeartbeats 4000000 in
set_option maxRecDepth 100000 in
theorem c_X6_empty (l : Launch) {D : va_G} {cy : Nat → ClassId} {A : Nat → Nat} {G : Nat → Bool} {M : Mem} {sz : Nat} {a0 : Nat} {x1 : Int32} (h0 : TT G 5 a0)  {z : Mem} (hm : m_X6_empty a0 x1 M = some z) : Met l yX6_empty (wm yX6_empty cX6_empty 3 none) ({ frames := 0, cells := 0, slots := 0, locals := 0 } : Room) (va_Pc [.ref (A a0), .int x1] (Pr D cy A G M sz)) (va_Qv (fun (u : Mem) => u = z) (Po D cy A G (Fr A G sz)) (Fr A G sz))  0 0 (Fr A G sz) := by
  refine ofB (Qc := fun sz => va_Qv (fun (u : Mem) => u = z) (Po D cy A G (Fr A G sz)) (Fr A G sz)) (by decide +kernel) (Nat.le_of_ble_eq_true rfl) ?_
  intro p e s m below meth c hx hb hr hts hown hlocks hml hmn hK hw ls hl
  have hl : lv_has ls 3 [(0, .ref (A a0)), (1, .int x1)] := hl
  have J12 : ∀  (n : Nat) (v2 : Int32) (M : Mem), m_X6_empty_L12 a0 x1 n v2 M = some z → ∀ (H : Heap) (locs : List Loc), WD D cy (Fr A G s.heap.size) A s.heap G M H locs → ∀ ls : Array Slot, lv_has ls 3 [(0, .ref (A a0)), (1, .int x1), (2, .int v2)] → W p l e (headSpec (wm yX6_empty cX6_empty 3 none) ({ frames := 0, cells := 0, slots := 0, locals := 0 } : Room)).room s m ([.ref (A a0), .int x1] : List Value).toArray below meth c H locs 0 0 (MQ below (va_Qv (fun (u : Mem) => u = z) (Po D cy A G (Fr A G s.heap.size)) (Fr A G s.heap.size)) ([.ref (A a0), .int x1] : List Value).toArray s 0 0 (Fr A G s.heap.size)) (F0 m 12 ls []) := by
    intro n
    induction n with
    | zero =>
      intro v2 M hm
      cases (show (none : Option Mem) = some z from hm)
    | succ n ih =>
      intro v2 M hm H locs hw ls hl
      have hm := (m_X6_empty_L12_s a0 x1 n v2 M).symm.trans hm
      refine lv_iload_n hx hb dX6_empty_12 rfl (lv_at hl 2 rfl) ?_
      refine lv_bipush (v := 100) hx hb dX6_empty_13 (by decide) ?_
      refine lv_icmp_ge (tgt := 39) hx hb dX6_empty_15 (by decide) (fun hq3 => ?_) (fun hq3 => ?_)
      · have hm := (if_pos hq3).symm.trans hm
        cases hm
        exact eV hx hb hr hlocks hK hw dX6_empty_39
      · have hm := (if_neg hq3).symm.trans hm
        refine lv_aload_n hx hb dX6_empty_18 rfl (lv_at hl 0 rfl) ?_
        refine g5 hx hb hts hown hK hw h0 0 (by decide) (.ref (A 4)) rfl k_fl_RX6_7 (fun _ h => h) dX6_empty_19 ?_
        have hp4 := mo_s h0
        refine lv_bipush (v := 19) hx hb dX6_empty_22 (by decide) ?_
        refine lv_bipush (v := 100) hx hb dX6_empty_24 (by decide) ?_
        refine lv_iload_n hx hb dX6_empty_26 rfl (lv_at hl 1 rfl) ?_
        refine lv_imul hx hb dX6_empty_27 ?_
        refine lv_iadd hx hb dX6_empty_28 ?_
        refine lv_iload_n hx hb dX6_empty_29 rfl (lv_at hl 2 rfl) ?_
        refine lv_iadd hx hb dX6_empty_30 ?_
        refine lv_iconst (v := 0) hx hb dX6_empty_31 (by decide) ?_
        obtain ⟨hi5, hm⟩ := ck_some hm
        refine pI hx hb hK hw hp4 hi5 dX6_empty_32 (fun H locs hw => ?_)
        refine lv_iinc (v := (v2 + 1)) (lv' := [(2, .int (v2 + 1)), (0, .ref (A a0)), (1, .int x1)]) hx hb dX6_empty_33 hl (k := 2) rfl rfl (by decide) rfl (fun ls hl => ?_)
        refine lv_goto (tgt := 12) hx hb dX6_empty_36 (by decide) ?_
        exact ih (v2 + 1) (aI 4 ((19 + (100 * x1)) + v2) 0 M) hm H locs hw ls (lv_sub hl [1, 2, 0] rfl)
  unfold m_X6_empty at hm
  revert hw
  suffices K : ∀ (H : Heap) (locs : List Loc), WD D cy (Fr A G s.heap.size) A s.heap G M H locs → W p l e (headSpec (wm yX6_empty cX6_empty 3 none) ({ frames := 0, cells := 0, slots := 0, locals := 0 } : Room)).room s m ([.ref (A a0), .int x1] : List Value).toArray below meth c H locs 0 0 (MQ below (va_Qv (fun (u : Mem) => u = z) (Po D cy A G (Fr A G s.heap.size)) (Fr A G s.heap.size)) ([.ref (A a0), .int x1] : List Value).toArray s 0 0 (Fr A G s.heap.size)) (F0 m 0 ls []) from fun hw => K _ _ hw
  intro H locs hw
  refine lv_aload_n hx hb dX6_empty_0 rfl (lv_at hl 0 rfl) ?_
  refine g5 hx hb hts hown hK hw h0 0 (by decide) (.ref (A 4)) rfl k_fl_RX6_7 (fun _ h => h) dX6_empty_1 ?_
  have hp1 := mo_s h0
  refine lv_bipush (v := 11) hx hb dX6_empty_4 (by decide) ?_
  refine lv_iload_n hx hb dX6_empty_6 rfl (lv_at hl 1 rfl) ?_
  refine lv_iadd hx hb dX6_empty_7 ?_
  refine lv_iconst (v := 0) hx hb dX6_empty_8 (by decide) ?_
  obtain ⟨hi2, hm⟩ := ck_some hm
  refine pI hx hb hK hw hp1 hi2 dX6_empty_9 (fun H locs hw => ?_)
  refine lv_iconst (v := 0) hx hb dX6_empty_10 (by decide) ?_
  refine lv_istore_n (lv' := [(2, .int 0), (0, .ref (A a0)), (1, .int x1)]) hx hb dX6_empty_11 rfl hl (by decide) rfl (fun ls hl => ?_)
  exact J12 fuel 0 (aI 4 (11 + x1) 0 M) hm H locs hw ls (lv_sub hl [1, 2, 0] rfl)
set_option maxHeartbeats 4000000 in
set_option maxRecDepth 100000 in
theorem c_X6_crash (l : Launch) {D : va_G} {cy : Nat → ClassId} {A : Nat → Nat} {G : Nat → Bool} {M : Mem} {sz : Nat} {a0 : Nat} {x1 : Int32} (h0 : TT G 5 a0)  {z : (Int32 × Mem)} (hm : m_X6_crash a0 x1 M = some z) : Met l yX6_crash (wm yX6_crash cX6_crash 3 (some .int)) ({ frames := 2, cells := 0, slots := 0, locals := 43 } : Room) (va_Pc [.ref (A a0), .int x1] (Pr D cy A G M sz)) (va_Qi (fun (r' : Int32) (u : Mem) => r' = z.1 ∧ u = z.2) (Po D cy A G (Fr A G sz)) (Fr A G sz))  0 0 (Fr A G sz) := by
  refine ofB (Qc := fun sz => va_Qi (fun (r' : Int32) (u : Mem) => r' = z.1 ∧ u = z.2) (Po D cy A G (Fr A G sz)) (Fr A G sz)) (by decide +kernel) (Nat.le_of_ble_eq_true rfl) ?_
  intro p e s m below meth c hx hb hr hts hown hlocks hml hmn hK hw ls hl
  have hl : lv_has ls 3 [(0, .ref (A a0)), (1, .int x1)] := hl
  have J27 : ∀  (u0 : Nat) (u1 : Int32) (u2 : Int32) (M : Mem) (hu0 : TT G 5 u0), m_X6_crash_b27 a0 x1 u0 u1 u2 M = some z → ∀ (H : Heap) (locs : List Loc), WD D cy (Fr A G s.heap.size) A s.heap G M H locs → ∀ ls : Array Slot, lv_has ls 3 [(0, .ref (A a0)), (1, .int x1)] → W p l e (headSpec (wm yX6_crash cX6_crash 3 (some .int)) ({ frames := 2, cells := 0, slots := 0, locals := 43 } : Room)).room s m ([.ref (A a0), .int x1] : List Value).toArray below meth c H locs 0 0 (MQ below (va_Qi (fun (r' : Int32) (u : Mem) => r' = z.1 ∧ u = z.2) (Po D cy A G (Fr A G s.heap.size)) (Fr A G s.heap.size)) ([.ref (A a0), .int x1] : List Value).toArray s 0 0 (Fr A G s.heap.size)) (F0 m 27 ls [.int u2, .int u1, .ref (A u0)]) := by
    intro u0 u1 u2 M hu0 hm H locs hw ls hl
    unfold m_X6_crash_b27 at hm
    refine ki hw Fr_hi (rV hx hb hml hts hown hK hw (c_X6_isFine l hu0 u1 u2) hu0 (by decide) rfl (mkV 2 hts k_ml_RX6_69 k_im_yX6_isFine k_se_yX6_isFine k_in_RX6 k_co_yX6_isFine hd_X6_isFine ⟨Nat.le_of_ble_eq_true rfl, Nat.le_of_ble_eq_true rfl⟩) rfl hl.1 rfl (Nat.le_of_ble_eq_true rfl) dX6_crash_27 ⟨Nat.le_of_ble_eq_true rfl, Nat.le_of_ble_eq_true rfl⟩) (fun H locs hw => ?_)
    refine lv_if_ne (tgt := 35) hx hb dX6_crash_30 (by decide) (fun hq6 => ?_) (fun hq6 => ?_)
    · have hm := (if_neg hq6).symm.trans hm
      refine lv_aload_n hx hb dX6_crash_35 rfl (lv_at hl 0 rfl) ?_
      obtain ⟨z7, e8, hm⟩ := bd_some hm
      refine kv hw Fr_hi (rV hx hb hml hts hown hK hw (c_X6_note l h0 e8) h0 (by decide) rfl (mkV 0 hts k_ml_RX6_63 k_im_yX6_note k_se_yX6_note k_in_RX6 k_co_yX6_note hd_X6_note ⟨Nat.le_of_ble_eq_true rfl, Nat.le_of_ble_eq_true rfl⟩) rfl hl.1 rfl (Nat.le_of_ble_eq_true rfl) dX6_crash_36 ⟨Nat.le_of_ble_eq_true rfl, Nat.le_of_ble_eq_true rfl⟩) (fun H locs hw => ?_)
      refine lv_aload_n hx hb dX6_crash_39 rfl (lv_at hl 0 rfl) ?_
      refine g5 hx hb hts hown hK hw h0 0 (by decide) (.ref (A 4)) rfl k_fl_RX6_7 (fun _ h => h) dX6_crash_40 ?_
      have hp9 := mo_s h0
      refine lv_bipush (v := 11) hx hb dX6_crash_43 (by decide) ?_
      refine lv_iload_n hx hb dX6_crash_45 rfl (lv_at hl 1 rfl) ?_
      refine lv_iadd hx hb dX6_crash_46 ?_
      obtain ⟨hi10, hm⟩ := ck_some hm
      refine gI hx hb hK hw hp9 hi10 dX6_crash_47 ?_
      refine lv_istore_n (lv' := [(2, .int (gR z7 4 (cl (11 + x1)))), (0, .ref (A a0)), (1, .int x1)]) hx hb dX6_crash_48 rfl hl (by decide) rfl (fun ls hl => ?_)
      refine lv_aload_n hx hb dX6_crash_49 rfl (lv_at hl 1 rfl) ?_
      refine lv_iload_n hx hb dX6_crash_50 rfl (lv_at hl 2 rfl) ?_
      obtain ⟨z11, e12, hm⟩ := bd_some hm
      refine kv hw Fr_hi (rV hx hb hml hts hown hK hw (c_X6_empty l h0 e12) h0 (by decide) rfl (mkV 1 hts k_ml_RX6_73 k_im_yX6_empty k_se_yX6_empty k_in_RX6 k_co_yX6_empty hd_X6_empty ⟨Nat.le_of_ble_eq_true rfl, Nat.le_of_ble_eq_true rfl⟩) rfl hl.1 rfl (Nat.le_of_ble_eq_true rfl) dX6_crash_51 ⟨Nat.le_of_ble_eq_true rfl, Nat.le_of_ble_eq_true rfl⟩) (fun H locs hw => ?_)
      refine lv_aload_n hx hb dX6_crash_54 rfl (lv_at hl 1 rfl) ?_
      refine g5 hx hb hts hown hK hw h0 0 (by decide) (.ref (A 4)) rfl k_fl_RX6_7 (fun _ h => h) dX6_crash_55 ?_
      have hp13 := mo_s h0
      refine lv_iconst (v := 3) hx hb dX6_crash_58 (by decide) ?_
      refine lv_iload_n hx hb dX6_crash_59 rfl (lv_at hl 2 rfl) ?_
      refine lv_iadd hx hb dX6_crash_60 ?_
      refine lv_iconst (v := 0) hx hb dX6_crash_61 (by decide) ?_
      obtain ⟨hi14, hm⟩ := ck_some hm
      refine pI hx hb hK hw hp13 hi14 dX6_crash_62 (fun H locs hw => ?_)
      refine lv_iload_n hx hb dX6_crash_63 rfl (lv_at hl 0 rfl) ?_
      cases hm
      exact eI hx hb hr hlocks hK hw dX6_crash_64
    · have hm := (if_pos hq6).symm.trans hm
      refine lv_iconst (v := 0) hx hb dX6_crash_33 (by decide) ?_
      cases hm
      exact eI hx hb hr hlocks hK hw dX6_crash_34
  unfold m_X6_crash at hm
  revert hw
  suffices K : ∀ (H : Heap) (locs : List Loc), WD D cy (Fr A G s.heap.size) A s.heap G M H locs → W p l e (headSpec (wm yX6_crash cX6_crash 3 (some .int)) ({ frames := 2, cells := 0, slots := 0, locals := 43 } : Room)).room s m ([.ref (A a0), .int x1] : List Value).toArray below meth c H locs 0 0 (MQ below (va_Qi (fun (r' : Int32) (u : Mem) => r' = z.1 ∧ u = z.2) (Po D cy A G (Fr A G s.heap.size)) (Fr A G s.heap.size)) ([.ref (A a0), .int x1] : List Value).toArray s 0 0 (Fr A G s.heap.size)) (F0 m 0 ls []) from fun hw => K _ _ hw
  intro H locs hw
  refine lv_aload_n hx hb dX6_crash_0 rfl (lv_at hl 0 rfl) ?_
  refine lv_aload_n hx hb dX6_crash_1 rfl (lv_at hl 0 rfl) ?_
  refine lv_iload_n hx hb dX6_crash_2 rfl (lv_at hl 1 rfl) ?_
  obtain ⟨z1, e2, hm⟩ := bd_some hm
  refine ki hw Fr_hi (rV hx hb hml hts hown hK hw (c_X6_isNode l h0 e2) h0 (by decide) rfl (mkV 1 hts k_ml_RX6_66 k_im_yX6_isNode k_se_yX6_isNode k_in_RX6 k_co_yX6_isNode hd_X6_isNode ⟨Nat.le_of_ble_eq_true rfl, Nat.le_of_ble_eq_true rfl⟩) rfl hl.1 rfl (Nat.le_of_ble_eq_true rfl) dX6_crash_3 ⟨Nat.le_of_ble_eq_true rfl, Nat.le_of_ble_eq_true rfl⟩) (fun H locs hw => ?_)
  refine lv_aload_n hx hb dX6_crash_6 rfl (lv_at hl 0 rfl) ?_
  refine lv_iload_n hx hb dX6_crash_7 rfl (lv_at hl 1 rfl) ?_
  obtain ⟨z3, e4, hm⟩ := bd_some hm
  refine ki hw Fr_hi (rV hx hb hml hts hown hK hw (c_X6_isNode l h0 e4) h0 (by decide) rfl (mkV 1 hts k_ml_RX6_66 k_im_yX6_isNode k_se_yX6_isNode k_in_RX6 k_co_yX6_isNode hd_X6_isNode ⟨Nat.le_of_ble_eq_true rfl, Nat.le_of_ble_eq_true rfl⟩) rfl hl.1 rfl (Nat.le_of_ble_eq_true rfl) dX6_crash_8 ⟨Nat.le_of_ble_eq_true rfl, Nat.le_of_ble_eq_true rfl⟩) (fun H locs hw => ?_)
  refine lv_if_eq (tgt := 26) hx hb dX6_crash_11 (by decide) (fun hq5 => ?_) (fun hq5 => ?_)
  · have hm := (if_pos hq5).symm.trans hm
    refine lv_iconst (v := 0) hx hb dX6_crash_26 (by decide) ?_
    exact J27 a0 z1 0 M h0 hm H locs hw ls hl
  · have hm := (if_neg hq5).symm.trans hm
    refine lv_aload_n hx hb dX6_crash_14 rfl (lv_at hl 0 rfl) ?_
    refine lv_iload_n hx hb dX6_crash_15 rfl (lv_at hl 1 rfl) ?_
    obtain ⟨z15, e16, hm⟩ := bd_some hm
    refine ki hw Fr_hi (rV hx hb hml hts hown hK hw (c_X6_isUp l h0 e16) h0 (by decide) rfl (mkV 1 hts k_ml_RX6_45 k_im_yX6_isUp k_se_yX6_isUp k_in_RX6 k_co_yX6_isUp hd_X6_isUp ⟨Nat.le_of_ble_eq_true rfl, Nat.le_of_ble_eq_true rfl⟩) rfl hl.1 rfl (Nat.le_of_ble_eq_true rfl) dX6_crash_16 ⟨Nat.le_of_ble_eq_true rfl, Nat.le_of_ble_eq_true rfl⟩) (fun H locs hw => ?_)
    refine lv_if_eq (tgt := 26) hx hb dX6_crash_19 (by decide) (fun hq17 => ?_) (fun hq17 => ?_)
    · have hm := (if_pos hq17).symm.trans hm
      refine lv_iconst (v := 0) hx hb dX6_crash_26 (by decide) ?_
      exact J27 a0 z1 0 M h0 hm H locs hw ls hl
    · have hm := (if_neg hq17).symm.trans hm
      refine lv_iconst (v := 1) hx hb dX6_crash_22 (by decide) ?_
      refine lv_goto (tgt := 27) hx hb dX6_crash_23 (by decide) ?_
      exact J27 a0 z1 1 M h0 hm H locs hw ls hl
set_option maxHeartbeats 4000000 in
set_option maxRecDepth 100000 in
theorem c_X6_restart (l : Launch) {D : va_G} {cy : Nat → ClassId} {A : Nat → Nat} {G : Nat → Bool} {M : Mem} {sz : Nat} {a0 : Nat} {x1 : Int32} (h0 : TT G 5 a0)  {z : (Int32 × Mem)} (hm : m_X6_restart a0 x1 M = some z) : Met l yX6_restart (wm yX6_restart cX6_restart 2 (some .int)) ({ frames := 2, cells := 0, slots := 0, locals := 43 } : Room) (va_Pc [.ref (A a0), .int x1] (Pr D cy A G M sz)) (va_Qi (fun (r' : Int32) (u : Mem) => r' = z.1 ∧ u = z.2) (Po D cy A G (Fr A G sz)) (Fr A G sz))  0 0 (Fr A G sz) := by
  refine ofB (Qc := fun sz => va_Qi (fun (r' : Int32) (u : Mem) => r' = z.1 ∧ u = z.2) (Po D cy A G (Fr A G sz)) (Fr A G sz)) (by decide +kernel) (Nat.le_of_ble_eq_true rfl) ?_
  intro p e s m below meth c hx hb hr hts hown hlocks hml hmn hK hw ls hl
  have hl : lv_has ls 2 [(0, .ref (A a0)), (1, .int x1)] := hl
  have J27 : ∀  (u0 : Nat) (u1 : Int32) (u2 : Int32) (M : Mem) (hu0 : TT G 5 u0), m_X6_restart_b27 a0 x1 u0 u1 u2 M = some z → ∀ (H : Heap) (locs : List Loc), WD D cy (Fr A G s.heap.size) A s.heap G M H locs → ∀ ls : Array Slot, lv_has ls 2 [(0, .ref (A a0)), (1, .int x1)] → W p l e (headSpec (wm yX6_restart cX6_restart 2 (some .int)) ({ frames := 2, cells := 0, slots := 0, locals := 43 } : Room)).room s m ([.ref (A a0), .int x1] : List Value).toArray below meth c H locs 0 0 (MQ below (va_Qi (fun (r' : Int32) (u : Mem) => r' = z.1 ∧ u = z.2) (Po D cy A G (Fr A G s.heap.size)) (Fr A G s.heap.size)) ([.ref (A a0), .int x1] : List Value).toArray s 0 0 (Fr A G s.heap.size)) (F0 m 27 ls [.int u2, .int u1, .ref (A u0)]) := by
    intro u0 u1 u2 M hu0 hm H locs hw ls hl
    unfold m_X6_restart_b27 at hm
    refine ki hw Fr_hi (rV hx hb hml hts hown hK hw (c_X6_isFine l hu0 u1 u2) hu0 (by decide) rfl (mkV 2 hts k_ml_RX6_69 k_im_yX6_isFine k_se_yX6_isFine k_in_RX6 k_co_yX6_isFine hd_X6_isFine ⟨Nat.le_of_ble_eq_true rfl, Nat.le_of_ble_eq_true rfl⟩) rfl hl.1 rfl (Nat.le_of_ble_eq_true rfl) dX6_restart_27 ⟨Nat.le_of_ble_eq_true rfl, Nat.le_of_ble_eq_true rfl⟩) (fun H locs hw => ?_)
    refine lv_if_ne (tgt := 35) hx hb dX6_restart_30 (by decide) (fun hq6 => ?_) (fun hq6 => ?_)
    · have hm := (if_neg hq6).symm.trans hm
      refine lv_aload_n hx hb dX6_restart_35 rfl (lv_at hl 0 rfl) ?_
      obtain ⟨z7, e8, hm⟩ := bd_some hm
      refine kv hw Fr_hi (rV hx hb hml hts hown hK hw (c_X6_note l h0 e8) h0 (by decide) rfl (mkV 0 hts k_ml_RX6_63 k_im_yX6_note k_se_yX6_note k_in_RX6 k_co_yX6_note hd_X6_note ⟨Nat.le_of_ble_eq_true rfl, Nat.le_of_ble_eq_true rfl⟩) rfl hl.1 rfl (Nat.le_of_ble_eq_true rfl) dX6_restart_36 ⟨Nat.le_of_ble_eq_true rfl, Nat.le_of_ble_eq_true rfl⟩) (fun H locs hw => ?_)
      refine lv_aload_n hx hb dX6_restart_39 rfl (lv_at hl 0 rfl) ?_
      refine g5 hx hb hts hown hK hw h0 0 (by decide) (.ref (A 4)) rfl k_fl_RX6_7 (fun _ h => h) dX6_restart_40 ?_
      have hp9 := mo_s h0
      refine lv_iconst (v := 3) hx hb dX6_restart_43 (by decide) ?_
      refine lv_iload_n hx hb dX6_restart_44 rfl (lv_at hl 1 rfl) ?_
      refine lv_iadd hx hb dX6_restart_45 ?_
      refine lv_iconst (v := 1) hx hb dX6_restart_46 (by decide) ?_
      obtain ⟨hi10, hm⟩ := ck_some hm
      refine pI hx hb hK hw hp9 hi10 dX6_restart_47 (fun H locs hw => ?_)
      refine lv_aload_n hx hb dX6_restart_48 rfl (lv_at hl 0 rfl) ?_
      refine lv_iload_n hx hb dX6_restart_49 rfl (lv_at hl 1 rfl) ?_
      obtain ⟨z11, e12, hm⟩ := bd_some hm
      refine ki hw Fr_hi (rV hx hb hml hts hown hK hw (c_X6_weightOf l h0 e12) h0 (by decide) rfl (mkV 1 hts k_ml_RX6_53 k_im_yX6_weightOf k_se_yX6_weightOf k_in_RX6 k_co_yX6_weightOf hd_X6_weightOf ⟨Nat.le_of_ble_eq_true rfl, Nat.le_of_ble_eq_true rfl⟩) rfl hl.1 rfl (Nat.le_of_ble_eq_true rfl) dX6_restart_50 ⟨Nat.le_of_ble_eq_true rfl, Nat.le_of_ble_eq_true rfl⟩) (fun H locs hw => ?_)
      cases hm
      exact eI hx hb hr hlocks hK hw dX6_restart_53
    · have hm := (if_pos hq6).symm.trans hm
      refine lv_iconst (v := 0) hx hb dX6_restart_33 (by decide) ?_
      cases hm
      exact eI hx hb hr hlocks hK hw dX6_restart_34
  unfold m_X6_restart at hm
  revert hw
  suffices K : ∀ (H : Heap) (locs : List Loc), WD D cy (Fr A G s.heap.size) A s.heap G M H locs → W p l e (headSpec (wm yX6_restart cX6_restart 2 (some .int)) ({ frames := 2, cells := 0, slots := 0, locals := 43 } : Room)).room s m ([.ref (A a0), .int x1] : List Value).toArray below meth c H locs 0 0 (MQ below (va_Qi (fun (r' : Int32) (u : Mem) => r' = z.1 ∧ u = z.2) (Po D cy A G (Fr A G s.heap.size)) (Fr A G s.heap.size)) ([.ref (A a0), .int x1] : List Value).toArray s 0 0 (Fr A G s.heap.size)) (F0 m 0 ls []) from fun hw => K _ _ hw
  intro H locs hw
  refine lv_aload_n hx hb dX6_restart_0 rfl (lv_at hl 0 rfl) ?_
  refine lv_aload_n hx hb dX6_restart_1 rfl (lv_at hl 0 rfl) ?_
  refine lv_iload_n hx hb dX6_restart_2 rfl (lv_at hl 1 rfl) ?_
  obtain ⟨z1, e2, hm⟩ := bd_some hm
  refine ki hw Fr_hi (rV hx hb hml hts hown hK hw (c_X6_isNode l h0 e2) h0 (by decide) rfl (mkV 1 hts k_ml_RX6_66 k_im_yX6_isNode k_se_yX6_isNode k_in_RX6 k_co_yX6_isNode hd_X6_isNode ⟨Nat.le_of_ble_eq_true rfl, Nat.le_of_ble_eq_true rfl⟩) rfl hl.1 rfl (Nat.le_of_ble_eq_true rfl) dX6_restart_3 ⟨Nat.le_of_ble_eq_true rfl, Nat.le_of_ble_eq_true rfl⟩) (fun H locs hw => ?_)
  refine lv_aload_n hx hb dX6_restart_6 rfl (lv_at hl 0 rfl) ?_
  refine lv_iload_n hx hb dX6_restart_7 rfl (lv_at hl 1 rfl) ?_
  obtain ⟨z3, e4, hm⟩ := bd_some hm
  refine ki hw Fr_hi (rV hx hb hml hts hown hK hw (c_X6_isNode l h0 e4) h0 (by decide) rfl (mkV 1 hts k_ml_RX6_66 k_im_yX6_isNode k_se_yX6_isNode k_in_RX6 k_co_yX6_isNode hd_X6_isNode ⟨Nat.le_of_ble_eq_true rfl, Nat.le_of_ble_eq_true rfl⟩) rfl hl.1 rfl (Nat.le_of_ble_eq_true rfl) dX6_restart_8 ⟨Nat.le_of_ble_eq_true rfl, Nat.le_of_ble_eq_true rfl⟩) (fun H locs hw => ?_)
  refine lv_if_eq (tgt := 26) hx hb dX6_restart_11 (by decide) (fun hq5 => ?_) (fun hq5 => ?_)
  · have hm := (if_pos hq5).symm.trans hm
    refine lv_iconst (v := 0) hx hb dX6_restart_26 (by decide) ?_
    exact J27 a0 z1 0 M h0 hm H locs hw ls hl
  · have hm := (if_neg hq5).symm.trans hm
    refine lv_aload_n hx hb dX6_restart_14 rfl (lv_at hl 0 rfl) ?_
    refine lv_iload_n hx hb dX6_restart_15 rfl (lv_at hl 1 rfl) ?_
    obtain ⟨z13, e14, hm⟩ := bd_some hm
    refine ki hw Fr_hi (rV hx hb hml hts hown hK hw (c_X6_isUp l h0 e14) h0 (by decide) rfl (mkV 1 hts k_ml_RX6_45 k_im_yX6_isUp k_se_yX6_isUp k_in_RX6 k_co_yX6_isUp hd_X6_isUp ⟨Nat.le_of_ble_eq_true rfl, Nat.le_of_ble_eq_true rfl⟩) rfl hl.1 rfl (Nat.le_of_ble_eq_true rfl) dX6_restart_16 ⟨Nat.le_of_ble_eq_true rfl, Nat.le_of_ble_eq_true rfl⟩) (fun H locs hw => ?_)
    refine lv_if_ne (tgt := 26) hx hb dX6_restart_19 (by decide) (fun hq15 => ?_) (fun hq15 => ?_)
    · have hm := (if_neg hq15).symm.trans hm
      refine lv_iconst (v := 0) hx hb dX6_restart_26 (by decide) ?_
      exact J27 a0 z1 0 M h0 hm H locs hw ls hl
    · have hm := (if_pos hq15).symm.trans hm
      refine lv_iconst (v := 1) hx hb dX6_restart_22 (by decide) ?_
      refine lv_goto (tgt := 27) hx hb dX6_restart_23 (by decide) ?_
      exact J27 a0 z1 1 M h0 hm H locs hw ls hl
set_option maxHeartbeats 4000000 in
set_option maxRecDepth 100000 in
theorem c_X6_send (l : Launch) {D : va_G} {cy : Nat → ClassId} {A : Nat → Nat} {G : Nat → Bool} {M : Mem} {sz : Nat} {a0 : Nat} {x1 : Int32} {x2 : Int32} {x3 : Int32} {x4 : Int32} (h0 : TT G 5 a0)  {z : Mem} (hm : m_X6_send a0 x1 x2 x3 x4 M = some z) : Met l yX6_send (wm yX6_send cX6_send 6 none) ({ frames := 1, cells := 0, slots := 0, locals := 22 } : Room) (va_Pc [.ref (A a0), .int x1, .int x2, .int x3, .int x4] (Pr D cy A G M sz)) (va_Qv (fun (u : Mem) => u = z) (Po D cy A G (Fr A G sz)) (Fr A G sz))  0 0 (Fr A G sz) := by
  refine ofB (Qc := fun sz => va_Qv (fun (u : Mem) => u = z) (Po D cy A G (Fr A G sz)) (Fr A G sz)) (by decide +kernel) (Nat.le_of_ble_eq_true rfl) ?_
  intro p e s m below meth c hx hb hr hts hown hlocks hml hmn hK hw ls hl
  have hl : lv_has ls 6 [(0, .ref (A a0)), (1, .int x1), (2, .int x2), (3, .int x3), (4, .int x4)] := hl
  unfold m_X6_send at hm
  revert hw
  suffices K : ∀ (H : Heap) (locs : List Loc), WD D cy (Fr A G s.heap.size) A s.heap G M H locs → W p l e (headSpec (wm yX6_send cX6_send 6 none) ({ frames := 1, cells := 0, slots := 0, locals := 22 } : Room)).room s m ([.ref (A a0), .int x1, .int x2, .int x3, .int x4] : List Value).toArray below meth c H locs 0 0 (MQ below (va_Qv (fun (u : Mem) => u = z) (Po D cy A G (Fr A G s.heap.size)) (Fr A G s.heap.size)) ([.ref (A a0), .int x1, .int x2, .int x3, .int x4] : List Value).toArray s 0 0 (Fr A G s.heap.size)) (F0 m 0 ls []) from fun hw => K _ _ hw
  intro H locs hw
  refine lv_aload_n hx hb dX6_send_0 rfl (lv_at hl 0 rfl) ?_
  refine lv_iload_n hx hb dX6_send_1 rfl (lv_at hl 1 rfl) ?_
  obtain ⟨z1, e2, hm⟩ := bd_some hm
  refine ki hw Fr_hi (rV hx hb hml hts hown hK hw (c_X6_isUp l h0 e2) h0 (by decide) rfl (mkV 1 hts k_ml_RX6_45 k_im_yX6_isUp k_se_yX6_isUp k_in_RX6 k_co_yX6_isUp hd_X6_isUp ⟨Nat.le_of_ble_eq_true rfl, Nat.le_of_ble_eq_true rfl⟩) rfl hl.1 rfl (Nat.le_of_ble_eq_true rfl) dX6_send_2 ⟨Nat.le_of_ble_eq_true rfl, Nat.le_of_ble_eq_true rfl⟩) (fun H locs hw => ?_)
  refine lv_if_eq (tgt := 89) hx hb dX6_send_5 (by decide) (fun hq3 => ?_) (fun hq3 => ?_)
  · have hm := (if_pos hq3).symm.trans hm
    cases hm
    exact eV hx hb hr hlocks hK hw dX6_send_89
  · have hm := (if_neg hq3).symm.trans hm
    refine lv_aload_n hx hb dX6_send_8 rfl (lv_at hl 0 rfl) ?_
    refine g5 hx hb hts hown hK hw h0 0 (by decide) (.ref (A 4)) rfl k_fl_RX6_7 (fun _ h => h) dX6_send_9 ?_
    have hp4 := mo_s h0
    refine lv_bipush (v := 11) hx hb dX6_send_12 (by decide) ?_
    refine lv_iload_n hx hb dX6_send_14 rfl (lv_at hl 1 rfl) ?_
    refine lv_iadd hx hb dX6_send_15 ?_
    obtain ⟨hi5, hm⟩ := ck_some hm
    refine gI hx hb hK hw hp4 hi5 dX6_send_16 ?_
    refine lv_bipush (v := 100) hx hb dX6_send_17 (by decide) ?_
    refine lv_icmp_ge (tgt := 89) hx hb dX6_send_19 (by decide) (fun hq6 => ?_) (fun hq6 => ?_)
    · have hm := (if_pos hq6).symm.trans hm
      cases hm
      exact eV hx hb hr hlocks hK hw dX6_send_89
    · have hm := (if_neg hq6).symm.trans hm
      refine lv_iload_n hx hb dX6_send_22 rfl (lv_at hl 2 rfl) ?_
      refine lv_iconst (v := 4) hx hb dX6_send_23 (by decide) ?_
      refine lv_iload_n hx hb dX6_send_24 rfl (lv_at hl 3 rfl) ?_
      refine lv_imul hx hb dX6_send_25 ?_
      refine lv_iadd hx hb dX6_send_26 ?_
      refine lv_sipush (v := 256) hx hb dX6_send_27 (by decide) ?_
      refine lv_iload hx hb dX6_send_30 (lv_at hl 4 rfl) ?_
      refine lv_iconst (v := 1) hx hb dX6_send_32 (by decide) ?_
      refine lv_iadd hx hb dX6_send_33 ?_
      refine lv_imul hx hb dX6_send_34 ?_
      refine lv_iadd hx hb dX6_send_35 ?_
      refine lv_sipush (v := 16384) hx hb dX6_send_36 (by decide) ?_
      refine lv_aload_n hx hb dX6_send_39 rfl (lv_at hl 0 rfl) ?_
      refine lv_iload_n hx hb dX6_send_40 rfl (lv_at hl 2 rfl) ?_
      refine lv_bipush (v := 7) hx hb dX6_send_41 (by decide) ?_
      refine lv_iload_n hx hb dX6_send_43 rfl (lv_at hl 3 rfl) ?_
      refine lv_iadd hx hb dX6_send_44 ?_
      obtain ⟨z7, e8, hm⟩ := bd_some hm
      refine ki hw Fr_hi (rV hx hb hml hts hown hK hw (c_X6_of l h0 e8) h0 (by decide) rfl (mkV 2 hts k_ml_RX6_31 k_im_yX6_of k_se_yX6_of k_in_RX6 k_co_yX6_of hd_X6_of ⟨Nat.le_of_ble_eq_true rfl, Nat.le_of_ble_eq_true rfl⟩) rfl hl.1 rfl (Nat.le_of_ble_eq_true rfl) dX6_send_45 ⟨Nat.le_of_ble_eq_true rfl, Nat.le_of_ble_eq_true rfl⟩) (fun H locs hw => ?_)
      refine lv_imul hx hb dX6_send_48 ?_
      refine lv_iadd hx hb dX6_send_49 ?_
      refine lv_istore (lv' := [(5, .int (((x2 + (4 * x3)) + (256 * (x4 + 1))) + (16384 * z7))), (0, .ref (A a0)), (1, .int x1), (2, .int x2), (3, .int x3), (4, .int x4)]) hx hb dX6_send_50 hl (by decide) rfl (fun ls hl => ?_)
      refine lv_aload_n hx hb dX6_send_52 rfl (lv_at hl 1 rfl) ?_
      refine g5 hx hb hts hown hK hw h0 0 (by decide) (.ref (A 4)) rfl k_fl_RX6_7 (fun _ h => h) dX6_send_53 ?_
      have hp9 := mo_s h0
      refine lv_bipush (v := 19) hx hb dX6_send_56 (by decide) ?_
      refine lv_bipush (v := 100) hx hb dX6_send_58 (by decide) ?_
      refine lv_iload_n hx hb dX6_send_60 rfl (lv_at hl 2 rfl) ?_
      refine lv_imul hx hb dX6_send_61 ?_
      refine lv_iadd hx hb dX6_send_62 ?_
      refine lv_aload_n hx hb dX6_send_63 rfl (lv_at hl 1 rfl) ?_
      refine g5 hx hb hts hown hK hw h0 0 (by decide) (.ref (A 4)) rfl k_fl_RX6_7 (fun _ h => h) dX6_send_64 ?_
      have hp10 := mo_s h0
      refine lv_bipush (v := 11) hx hb dX6_send_67 (by decide) ?_
      refine lv_iload_n hx hb dX6_send_69 rfl (lv_at hl 2 rfl) ?_
      refine lv_iadd hx hb dX6_send_70 ?_
      obtain ⟨hi11, hm⟩ := ck_some hm
      refine gI hx hb hK hw hp10 hi11 dX6_send_71 ?_
      refine lv_iadd hx hb dX6_send_72 ?_
      refine lv_iload hx hb dX6_send_73 (lv_at hl 0 rfl) ?_
      obtain ⟨hi12, hm⟩ := ck_some hm
      refine pI hx hb hK hw hp9 hi12 dX6_send_75 (fun H locs hw => ?_)
      refine lv_aload_n hx hb dX6_send_76 rfl (lv_at hl 1 rfl) ?_
      refine g5 hx hb hts hown hK hw h0 0 (by decide) (.ref (A 4)) rfl k_fl_RX6_7 (fun _ h => h) dX6_send_77 ?_
      have hp13 := mo_s h0
      refine lv_bipush (v := 11) hx hb dX6_send_80 (by decide) ?_
      refine lv_iload_n hx hb dX6_send_82 rfl (lv_at hl 2 rfl) ?_
      refine lv_iadd hx hb dX6_send_83 ?_
      refine lv_dup2_11 hx hb dX6_send_84 rfl rfl ?_
      obtain ⟨hi14, hm⟩ := ck_some hm
      refine gI hx hb hK hw hp13 hi14 dX6_send_85 ?_
      refine lv_iconst (v := 1) hx hb dX6_send_86 (by decide) ?_
      refine lv_iadd hx hb dX6_send_87 ?_
      obtain ⟨hi15, hm⟩ := ck_some hm
      refine pI hx hb hK hw hp13 hi15 dX6_send_88 (fun H locs hw => ?_)
      cases hm
      exact eV hx hb hr hlocks hK hw dX6_send_89
set_option maxHeartbeats 4000000 in
set_option maxRecDepth 100000 in
theorem c_X6_process (l : Launch) {D : va_G} {cy : Nat → ClassId} {A : Nat → Nat} {G : Nat → Bool} {M : Mem} {sz : Nat} {a0 : Nat} {x1 : Int32} (h0 : TT G 5 a0)  {z : (Int32 × Mem)} (hm : m_X6_process a0 x1 M = some z) : Met l yX6_process (wm yX6_process cX6_process 5 (some .int)) ({ frames := 4, cells := 0, slots := 0, locals := 94 } : Room) (va_Pc [.ref (A a0), .int x1] (Pr D cy A G M sz)) (va_Qi (fun (r' : Int32) (u : Mem) => r' = z.1 ∧ u = z.2) (Po D cy A G (Fr A G sz)) (Fr A G sz))  0 0 (Fr A G sz) := by
  refine ofB (Qc := fun sz => va_Qi (fun (r' : Int32) (u : Mem) => r' = z.1 ∧ u = z.2) (Po D cy A G (Fr A G sz)) (Fr A G sz)) (by decide +kernel) (Nat.le_of_ble_eq_true rfl) ?_
  intro p e s m below meth c hx hb hr hts hown hlocks hml hmn hK hw ls hl
  have hl : lv_has ls 5 [(0, .ref (A a0)), (1, .int x1)] := hl
  have J15 : ∀  (n : Nat) (v2 : Int32) (v3 : Int32) (M : Mem), m_X6_process_L15 a0 x1 n v2 v3 M = some z → ∀ (H : Heap) (locs : List Loc), WD D cy (Fr A G s.heap.size) A s.heap G M H locs → ∀ ls : Array Slot, lv_has ls 5 [(0, .ref (A a0)), (1, .int x1), (2, .int v2), (3, .int v3)] → W p l e (headSpec (wm yX6_process cX6_process 5 (some .int)) ({ frames := 4, cells := 0, slots := 0, locals := 94 } : Room)).room s m ([.ref (A a0), .int x1] : List Value).toArray below meth c H locs 0 0 (MQ below (va_Qi (fun (r' : Int32) (u : Mem) => r' = z.1 ∧ u = z.2) (Po D cy A G (Fr A G s.heap.size)) (Fr A G s.heap.size)) ([.ref (A a0), .int x1] : List Value).toArray s 0 0 (Fr A G s.heap.size)) (F0 m 15 ls []) := by
    intro n
    induction n with
    | zero =>
      intro v2 v3 M hm
      cases (show (none : Option (Int32 × Mem)) = some z from hm)
    | succ n ih =>
      intro v2 v3 M hm H locs hw ls hl
      have hm := (m_X6_process_L15_s a0 x1 n v2 v3 M).symm.trans hm
      refine lv_iload_n hx hb dX6_process_15 rfl (lv_at hl 3 rfl) ?_
      refine lv_iconst (v := 1) hx hb dX6_process_16 (by decide) ?_
      refine lv_iadd hx hb dX6_process_17 ?_
      refine lv_bipush (v := 100) hx hb dX6_process_18 (by decide) ?_
      refine lv_icmp_ge (tgt := 59) hx hb dX6_process_20 (by decide) (fun hq3 => ?_) (fun hq3 => ?_)
      · have hm := (if_pos hq3).symm.trans hm
        refine lv_aload_n hx hb dX6_process_59 rfl (lv_at hl 0 rfl) ?_
        refine g5 hx hb hts hown hK hw h0 0 (by decide) (.ref (A 4)) rfl k_fl_RX6_7 (fun _ h => h) dX6_process_60 ?_
        have hp4 := mo_s h0
        refine lv_bipush (v := 19) hx hb dX6_process_63 (by decide) ?_
        refine lv_bipush (v := 100) hx hb dX6_process_65 (by decide) ?_
        refine lv_iload_n hx hb dX6_process_67 rfl (lv_at hl 1 rfl) ?_
        refine lv_imul hx hb dX6_process_68 ?_
        refine lv_iadd hx hb dX6_process_69 ?_
        refine lv_bipush (v := 100) hx hb dX6_process_70 (by decide) ?_
        refine lv_iadd hx hb dX6_process_72 ?_
        refine lv_iconst (v := 1) hx hb dX6_process_73 (by decide) ?_
        refine lv_isub hx hb dX6_process_74 ?_
        refine lv_iconst (v := 0) hx hb dX6_process_75 (by decide) ?_
        obtain ⟨hi5, hm⟩ := ck_some hm
        refine pI hx hb hK hw hp4 hi5 dX6_process_76 (fun H locs hw => ?_)
        refine lv_aload_n hx hb dX6_process_77 rfl (lv_at hl 0 rfl) ?_
        refine g5 hx hb hts hown hK hw h0 0 (by decide) (.ref (A 4)) rfl k_fl_RX6_7 (fun _ h => h) dX6_process_78 ?_
        have hp6 := mo_s h0
        refine lv_bipush (v := 11) hx hb dX6_process_81 (by decide) ?_
        refine lv_iload_n hx hb dX6_process_83 rfl (lv_at hl 1 rfl) ?_
        refine lv_iadd hx hb dX6_process_84 ?_
        refine lv_dup2_11 hx hb dX6_process_85 rfl rfl ?_
        obtain ⟨hi7, hm⟩ := ck_some hm
        refine gI hx hb hK hw hp6 hi7 dX6_process_86 ?_
        refine lv_iconst (v := 1) hx hb dX6_process_87 (by decide) ?_
        refine lv_isub hx hb dX6_process_88 ?_
        obtain ⟨hi8, hm⟩ := ck_some hm
        refine pI hx hb hK hw hp6 hi8 dX6_process_89 (fun H locs hw => ?_)
        refine lv_iload_n hx hb dX6_process_90 rfl (lv_at hl 2 rfl) ?_
        refine lv_iconst (v := 4) hx hb dX6_process_91 (by decide) ?_
        refine lv_irem hx hb dX6_process_92 (by decide) ?_
        refine lv_istore_n (lv' := [(3, .int (v2 - v2 / 4 * 4)), (0, .ref (A a0)), (1, .int x1), (2, .int v2)]) hx hb dX6_process_93 rfl hl (by decide) rfl (fun ls hl => ?_)
        refine lv_iload_n hx hb dX6_process_94 rfl (lv_at hl 3 rfl) ?_
        refine lv_iconst (v := 4) hx hb dX6_process_95 (by decide) ?_
        refine lv_idiv hx hb dX6_process_96 (by decide) ?_
        refine lv_bipush (v := 64) hx hb dX6_process_97 (by decide) ?_
        refine lv_irem hx hb dX6_process_99 (by decide) ?_
        refine lv_istore (lv' := [(4, .int ((v2 / 4) - (v2 / 4) / 64 * 64)), (3, .int (v2 - v2 / 4 * 4)), (0, .ref (A a0)), (1, .int x1), (2, .int v2)]) hx hb dX6_process_100 hl (by decide) rfl (fun ls hl => ?_)
        refine lv_aload_n hx hb dX6_process_102 rfl (lv_at hl 2 rfl) ?_
        refine g5 hx hb hts hown hK hw h0 0 (by decide) (.ref (A 4)) rfl k_fl_RX6_7 (fun _ h => h) dX6_process_103 ?_
        have hp9 := mo_s h0
        refine lv_sipush (v := 2099) hx hb dX6_process_106 (by decide) ?_
        refine lv_iconst (v := 4) hx hb dX6_process_109 (by decide) ?_
        refine lv_iload_n hx hb dX6_process_110 rfl (lv_at hl 3 rfl) ?_
        refine lv_imul hx hb dX6_process_111 ?_
        refine lv_iadd hx hb dX6_process_112 ?_
        refine lv_iload_n hx hb dX6_process_113 rfl (lv_at hl 1 rfl) ?_
        refine lv_iadd hx hb dX6_process_114 ?_
        obtain ⟨hi10, hm⟩ := ck_some hm
        refine gI hx hb hK hw hp9 hi10 dX6_process_115 ?_
        refine lv_iconst (v := 1) hx hb dX6_process_116 (by decide) ?_
        refine lv_icmp_ne (tgt := 132) hx hb dX6_process_117 (by decide) (fun hq11 => ?_) (fun hq11 => ?_)
        · have hm := (if_neg hq11).symm.trans hm
          refine lv_aload_n hx hb dX6_process_132 rfl (lv_at hl 2 rfl) ?_
          refine lv_iload_n hx hb dX6_process_133 rfl (lv_at hl 3 rfl) ?_
          refine lv_iload_n hx hb dX6_process_134 rfl (lv_at hl 1 rfl) ?_
          refine lv_iload hx hb dX6_process_135 (lv_at hl 0 rfl) ?_
          refine lv_iload_n hx hb dX6_process_137 rfl (lv_at hl 4 rfl) ?_
          refine lv_sipush (v := 16384) hx hb dX6_process_138 (by decide) ?_
          refine lv_idiv hx hb dX6_process_141 (by decide) ?_
          refine lv_iload_n hx hb dX6_process_142 rfl (lv_at hl 4 rfl) ?_
          refine lv_sipush (v := 256) hx hb dX6_process_143 (by decide) ?_
          refine lv_idiv hx hb dX6_process_146 (by decide) ?_
          refine lv_bipush (v := 64) hx hb dX6_process_147 (by decide) ?_
          refine lv_irem hx hb dX6_process_149 (by decide) ?_
          refine lv_iconst (v := 1) hx hb dX6_process_150 (by decide) ?_
          refine lv_isub hx hb dX6_process_151 ?_
          obtain ⟨z12, e13, hm⟩ := bd_some hm
          refine kv hw Fr_hi (rV hx hb hml hts hown hK hw (c_X6_store l h0 e13) h0 (by decide) rfl (mkV 5 hts k_ml_RX6_77 k_im_yX6_store k_se_yX6_store k_in_RX6 k_co_yX6_store hd_X6_store ⟨Nat.le_of_ble_eq_true rfl, Nat.le_of_ble_eq_true rfl⟩) rfl hl.1 rfl (Nat.le_of_ble_eq_true rfl) dX6_process_152 ⟨Nat.le_of_ble_eq_true rfl, Nat.le_of_ble_eq_true rfl⟩) (fun H locs hw => ?_)
          refine lv_aload_n hx hb dX6_process_155 rfl (lv_at hl 2 rfl) ?_
          refine lv_iload_n hx hb dX6_process_156 rfl (lv_at hl 1 rfl) ?_
          refine lv_iconst (v := 3) hx hb dX6_process_157 (by decide) ?_
          obtain ⟨z14, e15, hm⟩ := bd_some hm
          refine ki hw Fr_hi (rV hx hb hml hts hown hK hw (c_X6_of l h0 e15) h0 (by decide) rfl (mkV 2 hts k_ml_RX6_31 k_im_yX6_of k_se_yX6_of k_in_RX6 k_co_yX6_of hd_X6_of ⟨Nat.le_of_ble_eq_true rfl, Nat.le_of_ble_eq_true rfl⟩) rfl hl.1 rfl (Nat.le_of_ble_eq_true rfl) dX6_process_158 ⟨Nat.le_of_ble_eq_true rfl, Nat.le_of_ble_eq_true rfl⟩) (fun H locs hw => ?_)
          refine lv_if_ne (tgt := 199) hx hb dX6_process_161 (by decide) (fun hq16 => ?_) (fun hq16 => ?_)
          · have hm := (if_neg hq16).symm.trans hm
            refine lv_iconst (v := 1) hx hb dX6_process_199 (by decide) ?_
            cases hm
            exact eI hx hb hr hlocks hK hw dX6_process_200
          · have hm := (if_pos hq16).symm.trans hm
            refine lv_aload_n hx hb dX6_process_164 rfl (lv_at hl 2 rfl) ?_
            refine lv_iload_n hx hb dX6_process_165 rfl (lv_at hl 1 rfl) ?_
            refine lv_iload hx hb dX6_process_166 (lv_at hl 0 rfl) ?_
            refine lv_iload_n hx hb dX6_process_168 rfl (lv_at hl 3 rfl) ?_
            obtain ⟨z17, e18, hm⟩ := bd_some hm
            refine ki hw Fr_hi (rV hx hb hml hts hown hK hw (c_X6_isWriter l h0 e18) h0 (by decide) rfl (mkV 3 hts k_ml_RX6_81 k_im_yX6_isWriter k_se_yX6_isWriter k_in_RX6 k_co_yX6_isWriter hd_X6_isWriter ⟨Nat.le_of_ble_eq_true rfl, Nat.le_of_ble_eq_true rfl⟩) rfl hl.1 rfl (Nat.le_of_ble_eq_true rfl) dX6_process_169 ⟨Nat.le_of_ble_eq_true rfl, Nat.le_of_ble_eq_true rfl⟩) (fun H locs hw => ?_)
            refine lv_if_eq (tgt := 199) hx hb dX6_process_172 (by decide) (fun hq19 => ?_) (fun hq19 => ?_)
            · have hm := (if_pos hq19).symm.trans hm
              refine lv_iconst (v := 1) hx hb dX6_process_199 (by decide) ?_
              cases hm
              exact eI hx hb hr hlocks hK hw dX6_process_200
            · have hm := (if_neg hq19).symm.trans hm
              refine lv_aload_n hx hb dX6_process_175 rfl (lv_at hl 2 rfl) ?_
              refine lv_iload_n hx hb dX6_process_176 rfl (lv_at hl 1 rfl) ?_
              refine lv_bipush (v := 47) hx hb dX6_process_177 (by decide) ?_
              refine lv_iload hx hb dX6_process_179 (lv_at hl 0 rfl) ?_
              refine lv_iadd hx hb dX6_process_181 ?_
              refine lv_aload_n hx hb dX6_process_182 rfl (lv_at hl 2 rfl) ?_
              refine lv_iload_n hx hb dX6_process_183 rfl (lv_at hl 1 rfl) ?_
              refine lv_bipush (v := 47) hx hb dX6_process_184 (by decide) ?_
              refine lv_iload hx hb dX6_process_186 (lv_at hl 0 rfl) ?_
              refine lv_iadd hx hb dX6_process_188 ?_
              obtain ⟨z20, e21, hm⟩ := bd_some hm
              refine ki hw Fr_hi (rV hx hb hml hts hown hK hw (c_X6_of l h0 e21) h0 (by decide) rfl (mkV 2 hts k_ml_RX6_31 k_im_yX6_of k_se_yX6_of k_in_RX6 k_co_yX6_of hd_X6_of ⟨Nat.le_of_ble_eq_true rfl, Nat.le_of_ble_eq_true rfl⟩) rfl hl.1 rfl (Nat.le_of_ble_eq_true rfl) dX6_process_189 ⟨Nat.le_of_ble_eq_true rfl, Nat.le_of_ble_eq_true rfl⟩) (fun H locs hw => ?_)
              refine lv_iconst (v := 1) hx hb dX6_process_192 (by decide) ?_
              refine lv_iload_n hx hb dX6_process_193 rfl (lv_at hl 3 rfl) ?_
              refine lv_ishl hx hb dX6_process_194 ?_
              refine lv_ior hx hb dX6_process_195 ?_
              obtain ⟨z22, e23, hm⟩ := bd_some hm
              refine kv hw Fr_hi (rV hx hb hml hts hown hK hw (c_X6_set l h0 e23) h0 (by decide) rfl (mkV 3 hts k_ml_RX6_84 k_im_yX6_set k_se_yX6_set k_in_RX6 k_co_yX6_set hd_X6_set ⟨Nat.le_of_ble_eq_true rfl, Nat.le_of_ble_eq_true rfl⟩) rfl hl.1 rfl (Nat.le_of_ble_eq_true rfl) dX6_process_196 ⟨Nat.le_of_ble_eq_true rfl, Nat.le_of_ble_eq_true rfl⟩) (fun H locs hw => ?_)
              refine lv_iconst (v := 1) hx hb dX6_process_199 (by decide) ?_
              cases hm
              exact eI hx hb hr hlocks hK hw dX6_process_200
        · have hm := (if_pos hq11).symm.trans hm
          refine lv_aload_n hx hb dX6_process_120 rfl (lv_at hl 2 rfl) ?_
          refine g5 hx hb hts hown hK hw h0 0 (by decide) (.ref (A 4)) rfl k_fl_RX6_7 (fun _ h => h) dX6_process_121 ?_
          have hp24 := mo_s h0
          refine lv_iconst (v := 2) hx hb dX6_process_124 (by decide) ?_
          refine lv_dup2_11 hx hb dX6_process_125 rfl rfl ?_
          obtain ⟨hi25, hm⟩ := ck_some hm
          refine gI hx hb hK hw hp24 hi25 dX6_process_126 ?_
          refine lv_iconst (v := 1) hx hb dX6_process_127 (by decide) ?_
          refine lv_iadd hx hb dX6_process_128 ?_
          obtain ⟨hi26, hm⟩ := ck_some hm
          refine pI hx hb hK hw hp24 hi26 dX6_process_129 (fun H locs hw => ?_)
          refine lv_iconst (v := 0) hx hb dX6_process_130 (by decide) ?_
          cases hm
          exact eI hx hb hr hlocks hK hw dX6_process_131
      · have hm := (if_neg hq3).symm.trans hm
        refine lv_aload_n hx hb dX6_process_23 rfl (lv_at hl 0 rfl) ?_
        refine g5 hx hb hts hown hK hw h0 0 (by decide) (.ref (A 4)) rfl k_fl_RX6_7 (fun _ h => h) dX6_process_24 ?_
        have hp27 := mo_s h0
        refine lv_bipush (v := 19) hx hb dX6_process_27 (by decide) ?_
        refine lv_bipush (v := 100) hx hb dX6_process_29 (by decide) ?_
        refine lv_iload_n hx hb dX6_process_31 rfl (lv_at hl 1 rfl) ?_
        refine lv_imul hx hb dX6_process_32 ?_
        refine lv_iadd hx hb dX6_process_33 ?_
        refine lv_iload_n hx hb dX6_process_34 rfl (lv_at hl 3 rfl) ?_
        refine lv_iadd hx hb dX6_process_35 ?_
        refine lv_aload_n hx hb dX6_process_36 rfl (lv_at hl 0 rfl) ?_
        refine g5 hx hb hts hown hK hw h0 0 (by decide) (.ref (A 4)) rfl k_fl_RX6_7 (fun _ h => h) dX6_process_37 ?_
        have hp28 := mo_s h0
        refine lv_bipush (v := 19) hx hb dX6_process_40 (by decide) ?_
        refine lv_bipush (v := 100) hx hb dX6_process_42 (by decide) ?_
        refine lv_iload_n hx hb dX6_process_44 rfl (lv_at hl 1 rfl) ?_
        refine lv_imul hx hb dX6_process_45 ?_
        refine lv_iadd hx hb dX6_process_46 ?_
        refine lv_iload_n hx hb dX6_process_47 rfl (lv_at hl 3 rfl) ?_
        refine lv_iadd hx hb dX6_process_48 ?_
        refine lv_iconst (v := 1) hx hb dX6_process_49 (by decide) ?_
        refine lv_iadd hx hb dX6_process_50 ?_
        obtain ⟨hi29, hm⟩ := ck_some hm
        refine gI hx hb hK hw hp28 hi29 dX6_process_51 ?_
        obtain ⟨hi30, hm⟩ := ck_some hm
        refine pI hx hb hK hw hp27 hi30 dX6_process_52 (fun H locs hw => ?_)
        refine lv_iinc (v := (v3 + 1)) (lv' := [(3, .int (v3 + 1)), (0, .ref (A a0)), (1, .int x1), (2, .int v2)]) hx hb dX6_process_53 hl (k := 3) rfl rfl (by decide) rfl (fun ls hl => ?_)
        refine lv_goto (tgt := 15) hx hb dX6_process_56 (by decide) ?_
        exact ih v2 (v3 + 1) (aI 4 ((19 + (100 * x1)) + v3) (gR M 4 (cl (((19 + (100 * x1)) + v3) + 1))) M) hm H locs hw ls (lv_sub hl [1, 2, 3, 0] rfl)
  unfold m_X6_process at hm
  revert hw
  suffices K : ∀ (H : Heap) (locs : List Loc), WD D cy (Fr A G s.heap.size) A s.heap G M H locs → W p l e (headSpec (wm yX6_process cX6_process 5 (some .int)) ({ frames := 4, cells := 0, slots := 0, locals := 94 } : Room)).room s m ([.ref (A a0), .int x1] : List Value).toArray below meth c H locs 0 0 (MQ below (va_Qi (fun (r' : Int32) (u : Mem) => r' = z.1 ∧ u = z.2) (Po D cy A G (Fr A G s.heap.size)) (Fr A G s.heap.size)) ([.ref (A a0), .int x1] : List Value).toArray s 0 0 (Fr A G s.heap.size)) (F0 m 0 ls []) from fun hw => K _ _ hw
  intro H locs hw
  refine lv_aload_n hx hb dX6_process_0 rfl (lv_at hl 0 rfl) ?_
  refine g5 hx hb hts hown hK hw h0 0 (by decide) (.ref (A 4)) rfl k_fl_RX6_7 (fun _ h => h) dX6_process_1 ?_
  have hp1 := mo_s h0
  refine lv_bipush (v := 19) hx hb dX6_process_4 (by decide) ?_
  refine lv_bipush (v := 100) hx hb dX6_process_6 (by decide) ?_
  refine lv_iload_n hx hb dX6_process_8 rfl (lv_at hl 1 rfl) ?_
  refine lv_imul hx hb dX6_process_9 ?_
  refine lv_iadd hx hb dX6_process_10 ?_
  obtain ⟨hi2, hm⟩ := ck_some hm
  refine gI hx hb hK hw hp1 hi2 dX6_process_11 ?_
  refine lv_istore_n (lv' := [(2, .int (gR M 4 (cl (19 + (100 * x1))))), (0, .ref (A a0)), (1, .int x1)]) hx hb dX6_process_12 rfl hl (by decide) rfl (fun ls hl => ?_)
  refine lv_iconst (v := 0) hx hb dX6_process_13 (by decide) ?_
  refine lv_istore_n (lv' := [(3, .int 0), (2, .int (gR M 4 (cl (19 + (100 * x1))))), (0, .ref (A a0)), (1, .int x1)]) hx hb dX6_process_14 rfl hl (by decide) rfl (fun ls hl => ?_)
  exact J15 fuel (gR M 4 (cl (19 + (100 * x1)))) 0 M hm H locs hw ls (lv_sub hl [2, 3, 1, 0] rfl)
set_option maxHeartbeats 4000000 in
set_option maxRecDepth 100000 in
theorem c_X6_deliver (l : Launch) {D : va_G} {cy : Nat → ClassId} {A : Nat → Nat} {G : Nat → Bool} {M : Mem} {sz : Nat} {a0 : Nat} {x1 : Int32} (h0 : TT G 5 a0)  {z : (Int32 × Mem)} (hm : m_X6_deliver a0 x1 M = some z) : Met l yX6_deliver (wm yX6_deliver cX6_deliver 2 (some .int)) ({ frames := 5, cells := 0, slots := 0, locals := 118 } : Room) (va_Pc [.ref (A a0), .int x1] (Pr D cy A G M sz)) (va_Qi (fun (r' : Int32) (u : Mem) => r' = z.1 ∧ u = z.2) (Po D cy A G (Fr A G sz)) (Fr A G sz))  0 0 (Fr A G sz) := by
  refine ofB (Qc := fun sz => va_Qi (fun (r' : Int32) (u : Mem) => r' = z.1 ∧ u = z.2) (Po D cy A G (Fr A G sz)) (Fr A G sz)) (by decide +kernel) (Nat.le_of_ble_eq_true rfl) ?_
  intro p e s m below meth c hx hb hr hts hown hlocks hml hmn hK hw ls hl
  have hl : lv_has ls 2 [(0, .ref (A a0)), (1, .int x1)] := hl
  have J27 : ∀  (u0 : Nat) (u1 : Int32) (u2 : Int32) (M : Mem) (hu0 : TT G 5 u0), m_X6_deliver_b27 a0 x1 u0 u1 u2 M = some z → ∀ (H : Heap) (locs : List Loc), WD D cy (Fr A G s.heap.size) A s.heap G M H locs → ∀ ls : Array Slot, lv_has ls 2 [(0, .ref (A a0)), (1, .int x1)] → W p l e (headSpec (wm yX6_deliver cX6_deliver 2 (some .int)) ({ frames := 5, cells := 0, slots := 0, locals := 118 } : Room)).room s m ([.ref (A a0), .int x1] : List Value).toArray below meth c H locs 0 0 (MQ below (va_Qi (fun (r' : Int32) (u : Mem) => r' = z.1 ∧ u = z.2) (Po D cy A G (Fr A G s.heap.size)) (Fr A G s.heap.size)) ([.ref (A a0), .int x1] : List Value).toArray s 0 0 (Fr A G s.heap.size)) (F0 m 27 ls [.int u2, .int u1, .ref (A u0)]) := by
    intro u0 u1 u2 M hu0 hm H locs hw ls hl
    unfold m_X6_deliver_b27 at hm
    refine ki hw Fr_hi (rV hx hb hml hts hown hK hw (c_X6_isFine l hu0 u1 u2) hu0 (by decide) rfl (mkV 2 hts k_ml_RX6_69 k_im_yX6_isFine k_se_yX6_isFine k_in_RX6 k_co_yX6_isFine hd_X6_isFine ⟨Nat.le_of_ble_eq_true rfl, Nat.le_of_ble_eq_true rfl⟩) rfl hl.1 rfl (Nat.le_of_ble_eq_true rfl) dX6_deliver_27 ⟨Nat.le_of_ble_eq_true rfl, Nat.le_of_ble_eq_true rfl⟩) (fun H locs hw => ?_)
    refine lv_if_ne (tgt := 35) hx hb dX6_deliver_30 (by decide) (fun hq6 => ?_) (fun hq6 => ?_)
    · have hm := (if_neg hq6).symm.trans hm
      refine lv_aload_n hx hb dX6_deliver_35 rfl (lv_at hl 0 rfl) ?_
      obtain ⟨z7, e8, hm⟩ := bd_some hm
      refine kv hw Fr_hi (rV hx hb hml hts hown hK hw (c_X6_note l h0 e8) h0 (by decide) rfl (mkV 0 hts k_ml_RX6_63 k_im_yX6_note k_se_yX6_note k_in_RX6 k_co_yX6_note hd_X6_note ⟨Nat.le_of_ble_eq_true rfl, Nat.le_of_ble_eq_true rfl⟩) rfl hl.1 rfl (Nat.le_of_ble_eq_true rfl) dX6_deliver_36 ⟨Nat.le_of_ble_eq_true rfl, Nat.le_of_ble_eq_true rfl⟩) (fun H locs hw => ?_)
      refine lv_aload_n hx hb dX6_deliver_39 rfl (lv_at hl 0 rfl) ?_
      refine g5 hx hb hts hown hK hw h0 0 (by decide) (.ref (A 4)) rfl k_fl_RX6_7 (fun _ h => h) dX6_deliver_40 ?_
      have hp9 := mo_s h0
      refine lv_bipush (v := 11) hx hb dX6_deliver_43 (by decide) ?_
      refine lv_iload_n hx hb dX6_deliver_45 rfl (lv_at hl 1 rfl) ?_
      refine lv_iadd hx hb dX6_deliver_46 ?_
      obtain ⟨hi10, hm⟩ := ck_some hm
      refine gI hx hb hK hw hp9 hi10 dX6_deliver_47 ?_
      refine lv_if_ne (tgt := 55) hx hb dX6_deliver_48 (by decide) (fun hq11 => ?_) (fun hq11 => ?_)
      · have hm := (if_neg hq11).symm.trans hm
        refine lv_aload_n hx hb dX6_deliver_55 rfl (lv_at hl 0 rfl) ?_
        refine lv_iload_n hx hb dX6_deliver_56 rfl (lv_at hl 1 rfl) ?_
        obtain ⟨z12, e13, hm⟩ := bd_some hm
        refine ki hw Fr_hi (rV hx hb hml hts hown hK hw (c_X6_process l h0 e13) h0 (by decide) rfl (mkV 1 hts k_ml_RX6_88 k_im_yX6_process k_se_yX6_process k_in_RX6 k_co_yX6_process hd_X6_process ⟨Nat.le_of_ble_eq_true rfl, Nat.le_of_ble_eq_true rfl⟩) rfl hl.1 rfl (Nat.le_of_ble_eq_true rfl) dX6_deliver_57 ⟨Nat.le_of_ble_eq_true rfl, Nat.le_of_ble_eq_true rfl⟩) (fun H locs hw => ?_)
        cases hm
        exact eI hx hb hr hlocks hK hw dX6_deliver_60
      · have hm := (if_pos hq11).symm.trans hm
        refine lv_iconst (v := (-1)) hx hb dX6_deliver_51 (by decide) ?_
        refine lv_goto (tgt := 60) hx hb dX6_deliver_52 (by decide) ?_
        cases hm
        exact eI hx hb hr hlocks hK hw dX6_deliver_60
    · have hm := (if_pos hq6).symm.trans hm
      refine lv_iconst (v := 0) hx hb dX6_deliver_33 (by decide) ?_
      cases hm
      exact eI hx hb hr hlocks hK hw dX6_deliver_34
  unfold m_X6_deliver at hm
  revert hw
  suffices K : ∀ (H : Heap) (locs : List Loc), WD D cy (Fr A G s.heap.size) A s.heap G M H locs → W p l e (headSpec (wm yX6_deliver cX6_deliver 2 (some .int)) ({ frames := 5, cells := 0, slots := 0, locals := 118 } : Room)).room s m ([.ref (A a0), .int x1] : List Value).toArray below meth c H locs 0 0 (MQ below (va_Qi (fun (r' : Int32) (u : Mem) => r' = z.1 ∧ u = z.2) (Po D cy A G (Fr A G s.heap.size)) (Fr A G s.heap.size)) ([.ref (A a0), .int x1] : List Value).toArray s 0 0 (Fr A G s.heap.size)) (F0 m 0 ls []) from fun hw => K _ _ hw
  intro H locs hw
  refine lv_aload_n hx hb dX6_deliver_0 rfl (lv_at hl 0 rfl) ?_
  refine lv_aload_n hx hb dX6_deliver_1 rfl (lv_at hl 0 rfl) ?_
  refine lv_iload_n hx hb dX6_deliver_2 rfl (lv_at hl 1 rfl) ?_
  obtain ⟨z1, e2, hm⟩ := bd_some hm
  refine ki hw Fr_hi (rV hx hb hml hts hown hK hw (c_X6_isNode l h0 e2) h0 (by decide) rfl (mkV 1 hts k_ml_RX6_66 k_im_yX6_isNode k_se_yX6_isNode k_in_RX6 k_co_yX6_isNode hd_X6_isNode ⟨Nat.le_of_ble_eq_true rfl, Nat.le_of_ble_eq_true rfl⟩) rfl hl.1 rfl (Nat.le_of_ble_eq_true rfl) dX6_deliver_3 ⟨Nat.le_of_ble_eq_true rfl, Nat.le_of_ble_eq_true rfl⟩) (fun H locs hw => ?_)
  refine lv_aload_n hx hb dX6_deliver_6 rfl (lv_at hl 0 rfl) ?_
  refine lv_iload_n hx hb dX6_deliver_7 rfl (lv_at hl 1 rfl) ?_
  obtain ⟨z3, e4, hm⟩ := bd_some hm
  refine ki hw Fr_hi (rV hx hb hml hts hown hK hw (c_X6_isNode l h0 e4) h0 (by decide) rfl (mkV 1 hts k_ml_RX6_66 k_im_yX6_isNode k_se_yX6_isNode k_in_RX6 k_co_yX6_isNode hd_X6_isNode ⟨Nat.le_of_ble_eq_true rfl, Nat.le_of_ble_eq_true rfl⟩) rfl hl.1 rfl (Nat.le_of_ble_eq_true rfl) dX6_deliver_8 ⟨Nat.le_of_ble_eq_true rfl, Nat.le_of_ble_eq_true rfl⟩) (fun H locs hw => ?_)
  refine lv_if_eq (tgt := 26) hx hb dX6_deliver_11 (by decide) (fun hq5 => ?_) (fun hq5 => ?_)
  · have hm := (if_pos hq5).symm.trans hm
    refine lv_iconst (v := 0) hx hb dX6_deliver_26 (by decide) ?_
    exact J27 a0 z1 0 M h0 hm H locs hw ls hl
  · have hm := (if_neg hq5).symm.trans hm
    refine lv_aload_n hx hb dX6_deliver_14 rfl (lv_at hl 0 rfl) ?_
    refine lv_iload_n hx hb dX6_deliver_15 rfl (lv_at hl 1 rfl) ?_
    obtain ⟨z14, e15, hm⟩ := bd_some hm
    refine ki hw Fr_hi (rV hx hb hml hts hown hK hw (c_X6_isUp l h0 e15) h0 (by decide) rfl (mkV 1 hts k_ml_RX6_45 k_im_yX6_isUp k_se_yX6_isUp k_in_RX6 k_co_yX6_isUp hd_X6_isUp ⟨Nat.le_of_ble_eq_true rfl, Nat.le_of_ble_eq_true rfl⟩) rfl hl.1 rfl (Nat.le_of_ble_eq_true rfl) dX6_deliver_16 ⟨Nat.le_of_ble_eq_true rfl, Nat.le_of_ble_eq_true rfl⟩) (fun H locs hw => ?_)
    refine lv_if_eq (tgt := 26) hx hb dX6_deliver_19 (by decide) (fun hq16 => ?_) (fun hq16 => ?_)
    · have hm := (if_pos hq16).symm.trans hm
      refine lv_iconst (v := 0) hx hb dX6_deliver_26 (by decide) ?_
      exact J27 a0 z1 0 M h0 hm H locs hw ls hl
    · have hm := (if_neg hq16).symm.trans hm
      refine lv_iconst (v := 1) hx hb dX6_deliver_22 (by decide) ?_
      refine lv_goto (tgt := 27) hx hb dX6_deliver_23 (by decide) ?_
      exact J27 a0 z1 1 M h0 hm H locs hw ls hl
set_option maxHeartbeats 4000000 in
set_option maxRecDepth 100000 in
theorem c_X6_deliverAll (l : Launch) {D : va_G} {cy : Nat → ClassId} {A : Nat → Nat} {G : Nat → Bool} {M : Mem} {sz : Nat} {a0 : Nat} (h0 : TT G 5 a0)  {z : (Int32 × Mem)} (hm : m_X6_deliverAll a0 M = some z) : Met l yX6_deliverAll (wm yX6_deliverAll cX6_deliverAll 4 (some .int)) ({ frames := 5, cells := 0, slots := 0, locals := 118 } : Room) (va_Pc [.ref (A a0)] (Pr D cy A G M sz)) (va_Qi (fun (r' : Int32) (u : Mem) => r' = z.1 ∧ u = z.2) (Po D cy A G (Fr A G sz)) (Fr A G sz))  0 0 (Fr A G sz) := by
  refine ofB (Qc := fun sz => va_Qi (fun (r' : Int32) (u : Mem) => r' = z.1 ∧ u = z.2) (Po D cy A G (Fr A G sz)) (Fr A G sz)) (by decide +kernel) (Nat.le_of_ble_eq_true rfl) ?_
  intro p e s m below meth c hx hb hr hts hown hlocks hml hmn hK hw ls hl
  have hl : lv_has ls 4 [(0, .ref (A a0))] := hl
  have J21 : ∀ (k13 : Int32 → Int32 → Mem → Option (Int32 × Mem)) (jk13 : ∀ (v1 : Int32) (v2 : Int32) (M : Mem), k13 v1 v2 M = some z → ∀ (H : Heap) (locs : List Loc), WD D cy (Fr A G s.heap.size) A s.heap G M H locs → ∀ ls : Array Slot, lv_has ls 4 [(0, .ref (A a0)), (1, .int v1), (2, .int v2)] → W p l e (headSpec (wm yX6_deliverAll cX6_deliverAll 4 (some .int)) ({ frames := 5, cells := 0, slots := 0, locals := 118 } : Room)).room s m ([.ref (A a0)] : List Value).toArray below meth c H locs 0 0 (MQ below (va_Qi (fun (r' : Int32) (u : Mem) => r' = z.1 ∧ u = z.2) (Po D cy A G (Fr A G s.heap.size)) (Fr A G s.heap.size)) ([.ref (A a0)] : List Value).toArray s 0 0 (Fr A G s.heap.size)) (F0 m 13 ls [])) (n : Nat) (v1 : Int32) (v2 : Int32) (v3 : Int32) (M : Mem), m_X6_deliverAll_L21 a0 k13 n v1 v2 v3 M = some z → ∀ (H : Heap) (locs : List Loc), WD D cy (Fr A G s.heap.size) A s.heap G M H locs → ∀ ls : Array Slot, lv_has ls 4 [(0, .ref (A a0)), (1, .int v1), (2, .int v2), (3, .int v3)] → W p l e (headSpec (wm yX6_deliverAll cX6_deliverAll 4 (some .int)) ({ frames := 5, cells := 0, slots := 0, locals := 118 } : Room)).room s m ([.ref (A a0)] : List Value).toArray below meth c H locs 0 0 (MQ below (va_Qi (fun (r' : Int32) (u : Mem) => r' = z.1 ∧ u = z.2) (Po D cy A G (Fr A G s.heap.size)) (Fr A G s.heap.size)) ([.ref (A a0)] : List Value).toArray s 0 0 (Fr A G s.heap.size)) (F0 m 21 ls []) := by
    intro k13 jk13 n
    induction n with
    | zero =>
      intro v1 v2 v3 M hm
      cases (show (none : Option (Int32 × Mem)) = some z from hm)
    | succ n ih =>
      intro v1 v2 v3 M hm H locs hw ls hl
      have hm := (m_X6_deliverAll_L21_s a0 k13 n v1 v2 v3 M).symm.trans hm
      refine lv_iload_n hx hb dX6_deliverAll_21 rfl (lv_at hl 3 rfl) ?_
      refine lv_aload_n hx hb dX6_deliverAll_22 rfl (lv_at hl 0 rfl) ?_
      refine g5 hx hb hts hown hK hw h0 0 (by decide) (.ref (A 4)) rfl k_fl_RX6_7 (fun _ h => h) dX6_deliverAll_23 ?_
      have hp4 := mo_s h0
      refine lv_iconst (v := 0) hx hb dX6_deliverAll_26 (by decide) ?_
      obtain ⟨hi5, hm⟩ := ck_some hm
      refine gI hx hb hK hw hp4 hi5 dX6_deliverAll_27 ?_
      refine lv_icmp_ge (tgt := 67) hx hb dX6_deliverAll_28 (by decide) (fun hq6 => ?_) (fun hq6 => ?_)
      · have hm := (if_pos hq6).symm.trans hm
        refine lv_goto (tgt := 13) hx hb dX6_deliverAll_67 (by decide) ?_
        exact jk13 v1 v2 M hm H locs hw ls (lv_sub hl [0, 1, 2] rfl)
      · have hm := (if_neg hq6).symm.trans hm
        refine lv_aload_n hx hb dX6_deliverAll_31 rfl (lv_at hl 0 rfl) ?_
        refine lv_iload_n hx hb dX6_deliverAll_32 rfl (lv_at hl 3 rfl) ?_
        obtain ⟨z7, e8, hm⟩ := bd_some hm
        refine ki hw Fr_hi (rV hx hb hml hts hown hK hw (c_X6_isUp l h0 e8) h0 (by decide) rfl (mkV 1 hts k_ml_RX6_45 k_im_yX6_isUp k_se_yX6_isUp k_in_RX6 k_co_yX6_isUp hd_X6_isUp ⟨Nat.le_of_ble_eq_true rfl, Nat.le_of_ble_eq_true rfl⟩) rfl hl.1 rfl (Nat.le_of_ble_eq_true rfl) dX6_deliverAll_33 ⟨Nat.le_of_ble_eq_true rfl, Nat.le_of_ble_eq_true rfl⟩) (fun H locs hw => ?_)
        refine lv_if_eq (tgt := 61) hx hb dX6_deliverAll_36 (by decide) (fun hq9 => ?_) (fun hq9 => ?_)
        · have hm := (if_pos hq9).symm.trans hm
          refine lv_iinc (v := (v3 + 1)) (lv' := [(3, .int (v3 + 1)), (0, .ref (A a0)), (1, .int v1), (2, .int v2)]) hx hb dX6_deliverAll_61 hl (k := 3) rfl rfl (by decide) rfl (fun ls hl => ?_)
          refine lv_goto (tgt := 21) hx hb dX6_deliverAll_64 (by decide) ?_
          exact ih v1 v2 (v3 + 1) M hm H locs hw ls (lv_sub hl [1, 2, 3, 0] rfl)
        · have hm := (if_neg hq9).symm.trans hm
          refine lv_aload_n hx hb dX6_deliverAll_39 rfl (lv_at hl 0 rfl) ?_
          refine g5 hx hb hts hown hK hw h0 0 (by decide) (.ref (A 4)) rfl k_fl_RX6_7 (fun _ h => h) dX6_deliverAll_40 ?_
          have hp10 := mo_s h0
          refine lv_bipush (v := 11) hx hb dX6_deliverAll_43 (by decide) ?_
          refine lv_iload_n hx hb dX6_deliverAll_45 rfl (lv_at hl 3 rfl) ?_
          refine lv_iadd hx hb dX6_deliverAll_46 ?_
          obtain ⟨hi11, hm⟩ := ck_some hm
          refine gI hx hb hK hw hp10 hi11 dX6_deliverAll_47 ?_
          refine lv_if_le (tgt := 61) hx hb dX6_deliverAll_48 (by decide) (fun hq12 => ?_) (fun hq12 => ?_)
          · have hm := (if_pos hq12).symm.trans hm
            refine lv_iinc (v := (v3 + 1)) (lv' := [(3, .int (v3 + 1)), (0, .ref (A a0)), (1, .int v1), (2, .int v2)]) hx hb dX6_deliverAll_61 hl (k := 3) rfl rfl (by decide) rfl (fun ls hl => ?_)
            refine lv_goto (tgt := 21) hx hb dX6_deliverAll_64 (by decide) ?_
            exact ih v1 v2 (v3 + 1) M hm H locs hw ls (lv_sub hl [1, 2, 3, 0] rfl)
          · have hm := (if_neg hq12).symm.trans hm
            refine lv_iload_n hx hb dX6_deliverAll_51 rfl (lv_at hl 1 rfl) ?_
            refine lv_aload_n hx hb dX6_deliverAll_52 rfl (lv_at hl 0 rfl) ?_
            refine lv_iload_n hx hb dX6_deliverAll_53 rfl (lv_at hl 3 rfl) ?_
            obtain ⟨z13, e14, hm⟩ := bd_some hm
            refine ki hw Fr_hi (rV hx hb hml hts hown hK hw (c_X6_process l h0 e14) h0 (by decide) rfl (mkV 1 hts k_ml_RX6_88 k_im_yX6_process k_se_yX6_process k_in_RX6 k_co_yX6_process hd_X6_process ⟨Nat.le_of_ble_eq_true rfl, Nat.le_of_ble_eq_true rfl⟩) rfl hl.1 rfl (Nat.le_of_ble_eq_true rfl) dX6_deliverAll_54 ⟨Nat.le_of_ble_eq_true rfl, Nat.le_of_ble_eq_true rfl⟩) (fun H locs hw => ?_)
            refine lv_iadd hx hb dX6_deliverAll_57 ?_
            refine lv_istore_n (lv' := [(1, .int (v1 + z13.1)), (0, .ref (A a0)), (2, .int v2), (3, .int v3)]) hx hb dX6_deliverAll_58 rfl hl (by decide) rfl (fun ls hl => ?_)
            refine lv_iconst (v := 1) hx hb dX6_deliverAll_59 (by decide) ?_
            refine lv_istore_n (lv' := [(2, .int 1), (1, .int (v1 + z13.1)), (0, .ref (A a0)), (3, .int v3)]) hx hb dX6_deliverAll_60 rfl hl (by decide) rfl (fun ls hl => ?_)
            refine lv_iinc (v := (v3 + 1)) (lv' := [(3, .int (v3 + 1)), (2, .int 1), (1, .int (v1 + z13.1)), (0, .ref (A a0))]) hx hb dX6_deliverAll_61 hl (k := 3) rfl rfl (by decide) rfl (fun ls hl => ?_)
            refine lv_goto (tgt := 21) hx hb dX6_deliverAll_64 (by decide) ?_
            exact ih (v1 + z13.1) 1 (v3 + 1) z13.2 hm H locs hw ls (lv_sub hl [3, 2, 1, 0] rfl)
  have J13 : ∀  (n : Nat) (v1 : Int32) (v2 : Int32) (M : Mem), m_X6_deliverAll_L13 a0 n v1 v2 M = some z → ∀ (H : Heap) (locs : List Loc), WD D cy (Fr A G s.heap.size) A s.heap G M H locs → ∀ ls : Array Slot, lv_has ls 4 [(0, .ref (A a0)), (1, .int v1), (2, .int v2)] → W p l e (headSpec (wm yX6_deliverAll cX6_deliverAll 4 (some .int)) ({ frames := 5, cells := 0, slots := 0, locals := 118 } : Room)).room s m ([.ref (A a0)] : List Value).toArray below meth c H locs 0 0 (MQ below (va_Qi (fun (r' : Int32) (u : Mem) => r' = z.1 ∧ u = z.2) (Po D cy A G (Fr A G s.heap.size)) (Fr A G s.heap.size)) ([.ref (A a0)] : List Value).toArray s 0 0 (Fr A G s.heap.size)) (F0 m 13 ls []) := by
    intro n
    induction n with
    | zero =>
      intro v1 v2 M hm
      cases (show (none : Option (Int32 × Mem)) = some z from hm)
    | succ n ih =>
      intro v1 v2 M hm H locs hw ls hl
      have hm := (m_X6_deliverAll_L13_s a0 n v1 v2 M).symm.trans hm
      refine lv_iload_n hx hb dX6_deliverAll_13 rfl (lv_at hl 2 rfl) ?_
      refine lv_if_eq (tgt := 70) hx hb dX6_deliverAll_14 (by decide) (fun hq3 => ?_) (fun hq3 => ?_)
      · have hm := (if_pos hq3).symm.trans hm
        refine lv_iload_n hx hb dX6_deliverAll_70 rfl (lv_at hl 1 rfl) ?_
        cases hm
        exact eI hx hb hr hlocks hK hw dX6_deliverAll_71
      · have hm := (if_neg hq3).symm.trans hm
        refine lv_iconst (v := 0) hx hb dX6_deliverAll_17 (by decide) ?_
        refine lv_istore_n (lv' := [(2, .int 0), (0, .ref (A a0)), (1, .int v1)]) hx hb dX6_deliverAll_18 rfl hl (by decide) rfl (fun ls hl => ?_)
        refine lv_iconst (v := 0) hx hb dX6_deliverAll_19 (by decide) ?_
        refine lv_istore_n (lv' := [(3, .int 0), (2, .int 0), (0, .ref (A a0)), (1, .int v1)]) hx hb dX6_deliverAll_20 rfl hl (by decide) rfl (fun ls hl => ?_)
        exact J21 (fun w0 w1 w2 => m_X6_deliverAll_L13 a0 n w0 w1 w2) (fun w0 w1 w2 hh H locs hw ls hl => ih w0 w1 w2 hh H locs hw ls hl) fuel v1 0 0 M hm H locs hw ls (lv_sub hl [2, 3, 1, 0] rfl)
  unfold m_X6_deliverAll at hm
  revert hw
  suffices K : ∀ (H : Heap) (locs : List Loc), WD D cy (Fr A G s.heap.size) A s.heap G M H locs → W p l e (headSpec (wm yX6_deliverAll cX6_deliverAll 4 (some .int)) ({ frames := 5, cells := 0, slots := 0, locals := 118 } : Room)).room s m ([.ref (A a0)] : List Value).toArray below meth c H locs 0 0 (MQ below (va_Qi (fun (r' : Int32) (u : Mem) => r' = z.1 ∧ u = z.2) (Po D cy A G (Fr A G s.heap.size)) (Fr A G s.heap.size)) ([.ref (A a0)] : List Value).toArray s 0 0 (Fr A G s.heap.size)) (F0 m 0 ls []) from fun hw => K _ _ hw
  intro H locs hw
  refine lv_aload_n hx hb dX6_deliverAll_0 rfl (lv_at hl 0 rfl) ?_
  refine lv_iconst (v := 0) hx hb dX6_deliverAll_1 (by decide) ?_
  refine p5 hx hb hts hown hK hw h0 3 (by decide) k_fl_RX6_20 (fun _ h => h) dX6_deliverAll_2 (fun H locs hw => ?_)
  refine lv_aload_n hx hb dX6_deliverAll_5 rfl (lv_at hl 0 rfl) ?_
  obtain ⟨z1, e2, hm⟩ := bd_some hm
  refine kv hw Fr_hi (rV hx hb hml hts hown hK hw (c_X6_note l h0 e2) h0 (by decide) rfl (mkV 0 hts k_ml_RX6_63 k_im_yX6_note k_se_yX6_note k_in_RX6 k_co_yX6_note hd_X6_note ⟨Nat.le_of_ble_eq_true rfl, Nat.le_of_ble_eq_true rfl⟩) rfl hl.1 rfl (Nat.le_of_ble_eq_true rfl) dX6_deliverAll_6 ⟨Nat.le_of_ble_eq_true rfl, Nat.le_of_ble_eq_true rfl⟩) (fun H locs hw => ?_)
  refine lv_iconst (v := 0) hx hb dX6_deliverAll_9 (by decide) ?_
  refine lv_istore_n (lv' := [(1, .int 0), (0, .ref (A a0))]) hx hb dX6_deliverAll_10 rfl hl (by decide) rfl (fun ls hl => ?_)
  refine lv_iconst (v := 1) hx hb dX6_deliverAll_11 (by decide) ?_
  refine lv_istore_n (lv' := [(2, .int 1), (1, .int 0), (0, .ref (A a0))]) hx hb dX6_deliverAll_12 rfl hl (by decide) rfl (fun ls hl => ?_)
  exact J13 fuel 0 1 z1 hm H locs hw ls (lv_sub hl [2, 1, 0] rfl)
set_option maxHeartbeats 4000000 in
set_option maxRecDepth 100000 in
theorem c_X6_inboxLength (l : Launch) {D : va_G} {cy : Nat → ClassId} {A : Nat → Nat} {G : Nat → Bool} {M : Mem} {sz : Nat} {a0 : Nat} {x1 : Int32} (h0 : TT G 5 a0)  {z : (Int32 × Mem)} (hm : m_X6_inboxLength a0 x1 M = some z) : Met l yX6_inboxLength (wm yX6_inboxLength cX6_inboxLength 2 (some .int)) ({ frames := 2, cells := 0, slots := 0, locals := 43 } : Room) (va_Pc [.ref (A a0), .int x1] (Pr D cy A G M sz)) (va_Qi (fun (r' : Int32) (u : Mem) => r' = z.1 ∧ u = z.2) (Po D cy A G (Fr A G sz)) (Fr A G sz))  0 0 (Fr A G sz) := by
  refine ofB (Qc := fun sz => va_Qi (fun (r' : Int32) (u : Mem) => r' = z.1 ∧ u = z.2) (Po D cy A G (Fr A G sz)) (Fr A G sz)) (by decide +kernel) (Nat.le_of_ble_eq_true rfl) ?_
  intro p e s m below meth c hx hb hr hts hown hlocks hml hmn hK hw ls hl
  have hl : lv_has ls 2 [(0, .ref (A a0)), (1, .int x1)] := hl
  unfold m_X6_inboxLength at hm
  revert hw
  suffices K : ∀ (H : Heap) (locs : List Loc), WD D cy (Fr A G s.heap.size) A s.heap G M H locs → W p l e (headSpec (wm yX6_inboxLength cX6_inboxLength 2 (some .int)) ({ frames := 2, cells := 0, slots := 0, locals := 43 } : Room)).room s m ([.ref (A a0), .int x1] : List Value).toArray below meth c H locs 0 0 (MQ below (va_Qi (fun (r' : Int32) (u : Mem) => r' = z.1 ∧ u = z.2) (Po D cy A G (Fr A G s.heap.size)) (Fr A G s.heap.size)) ([.ref (A a0), .int x1] : List Value).toArray s 0 0 (Fr A G s.heap.size)) (F0 m 0 ls []) from fun hw => K _ _ hw
  intro H locs hw
  refine lv_aload_n hx hb dX6_inboxLength_0 rfl (lv_at hl 0 rfl) ?_
  refine lv_aload_n hx hb dX6_inboxLength_1 rfl (lv_at hl 0 rfl) ?_
  refine lv_iload_n hx hb dX6_inboxLength_2 rfl (lv_at hl 1 rfl) ?_
  obtain ⟨z1, e2, hm⟩ := bd_some hm
  refine ki hw Fr_hi (rV hx hb hml hts hown hK hw (c_X6_isNode l h0 e2) h0 (by decide) rfl (mkV 1 hts k_ml_RX6_66 k_im_yX6_isNode k_se_yX6_isNode k_in_RX6 k_co_yX6_isNode hd_X6_isNode ⟨Nat.le_of_ble_eq_true rfl, Nat.le_of_ble_eq_true rfl⟩) rfl hl.1 rfl (Nat.le_of_ble_eq_true rfl) dX6_inboxLength_3 ⟨Nat.le_of_ble_eq_true rfl, Nat.le_of_ble_eq_true rfl⟩) (fun H locs hw => ?_)
  refine lv_iconst (v := 1) hx hb dX6_inboxLength_6 (by decide) ?_
  refine ki hw Fr_hi (rV hx hb hml hts hown hK hw (c_X6_isFine l h0 z1 1) h0 (by decide) rfl (mkV 2 hts k_ml_RX6_69 k_im_yX6_isFine k_se_yX6_isFine k_in_RX6 k_co_yX6_isFine hd_X6_isFine ⟨Nat.le_of_ble_eq_true rfl, Nat.le_of_ble_eq_true rfl⟩) rfl hl.1 rfl (Nat.le_of_ble_eq_true rfl) dX6_inboxLength_7 ⟨Nat.le_of_ble_eq_true rfl, Nat.le_of_ble_eq_true rfl⟩) (fun H locs hw => ?_)
  refine lv_if_eq (tgt := 25) hx hb dX6_inboxLength_10 (by decide) (fun hq3 => ?_) (fun hq3 => ?_)
  · have hm := (if_pos hq3).symm.trans hm
    refine lv_iconst (v := 0) hx hb dX6_inboxLength_25 (by decide) ?_
    cases hm
    exact eI hx hb hr hlocks hK hw dX6_inboxLength_26
  · have hm := (if_neg hq3).symm.trans hm
    refine lv_aload_n hx hb dX6_inboxLength_13 rfl (lv_at hl 0 rfl) ?_
    refine g5 hx hb hts hown hK hw h0 0 (by decide) (.ref (A 4)) rfl k_fl_RX6_7 (fun _ h => h) dX6_inboxLength_14 ?_
    have hp4 := mo_s h0
    refine lv_bipush (v := 11) hx hb dX6_inboxLength_17 (by decide) ?_
    refine lv_iload_n hx hb dX6_inboxLength_19 rfl (lv_at hl 1 rfl) ?_
    refine lv_iadd hx hb dX6_inboxLength_20 ?_
    obtain ⟨hi5, hm⟩ := ck_some hm
    refine gI hx hb hK hw hp4 hi5 dX6_inboxLength_21 ?_
    refine lv_goto (tgt := 26) hx hb dX6_inboxLength_22 (by decide) ?_
    cases hm
    exact eI hx hb hr hlocks hK hw dX6_inboxLength_26
set_option maxHeartbeats 4000000 in
set_option maxRecDepth 100000 in
theorem c_X6_weight (l : Launch) {D : va_G} {cy : Nat → ClassId} {A : Nat → Nat} {G : Nat → Bool} {M : Mem} {sz : Nat} {a0 : Nat} {x1 : Int32} (h0 : TT G 5 a0)  {z : (Int32 × Mem)} (hm : m_X6_weight a0 x1 M = some z) : Met l yX6_weight (wm yX6_weight cX6_weight 2 (some .int)) ({ frames := 2, cells := 0, slots := 0, locals := 43 } : Room) (va_Pc [.ref (A a0), .int x1] (Pr D cy A G M sz)) (va_Qi (fun (r' : Int32) (u : Mem) => r' = z.1 ∧ u = z.2) (Po D cy A G (Fr A G sz)) (Fr A G sz))  0 0 (Fr A G sz) := by
  refine ofB (Qc := fun sz => va_Qi (fun (r' : Int32) (u : Mem) => r' = z.1 ∧ u = z.2) (Po D cy A G (Fr A G sz)) (Fr A G sz)) (by decide +kernel) (Nat.le_of_ble_eq_true rfl) ?_
  intro p e s m below meth c hx hb hr hts hown hlocks hml hmn hK hw ls hl
  have hl : lv_has ls 2 [(0, .ref (A a0)), (1, .int x1)] := hl
  unfold m_X6_weight at hm
  revert hw
  suffices K : ∀ (H : Heap) (locs : List Loc), WD D cy (Fr A G s.heap.size) A s.heap G M H locs → W p l e (headSpec (wm yX6_weight cX6_weight 2 (some .int)) ({ frames := 2, cells := 0, slots := 0, locals := 43 } : Room)).room s m ([.ref (A a0), .int x1] : List Value).toArray below meth c H locs 0 0 (MQ below (va_Qi (fun (r' : Int32) (u : Mem) => r' = z.1 ∧ u = z.2) (Po D cy A G (Fr A G s.heap.size)) (Fr A G s.heap.size)) ([.ref (A a0), .int x1] : List Value).toArray s 0 0 (Fr A G s.heap.size)) (F0 m 0 ls []) from fun hw => K _ _ hw
  intro H locs hw
  refine lv_aload_n hx hb dX6_weight_0 rfl (lv_at hl 0 rfl) ?_
  refine lv_aload_n hx hb dX6_weight_1 rfl (lv_at hl 0 rfl) ?_
  refine lv_iload_n hx hb dX6_weight_2 rfl (lv_at hl 1 rfl) ?_
  obtain ⟨z1, e2, hm⟩ := bd_some hm
  refine ki hw Fr_hi (rV hx hb hml hts hown hK hw (c_X6_isNode l h0 e2) h0 (by decide) rfl (mkV 1 hts k_ml_RX6_66 k_im_yX6_isNode k_se_yX6_isNode k_in_RX6 k_co_yX6_isNode hd_X6_isNode ⟨Nat.le_of_ble_eq_true rfl, Nat.le_of_ble_eq_true rfl⟩) rfl hl.1 rfl (Nat.le_of_ble_eq_true rfl) dX6_weight_3 ⟨Nat.le_of_ble_eq_true rfl, Nat.le_of_ble_eq_true rfl⟩) (fun H locs hw => ?_)
  refine lv_iconst (v := 1) hx hb dX6_weight_6 (by decide) ?_
  refine ki hw Fr_hi (rV hx hb hml hts hown hK hw (c_X6_isFine l h0 z1 1) h0 (by decide) rfl (mkV 2 hts k_ml_RX6_69 k_im_yX6_isFine k_se_yX6_isFine k_in_RX6 k_co_yX6_isFine hd_X6_isFine ⟨Nat.le_of_ble_eq_true rfl, Nat.le_of_ble_eq_true rfl⟩) rfl hl.1 rfl (Nat.le_of_ble_eq_true rfl) dX6_weight_7 ⟨Nat.le_of_ble_eq_true rfl, Nat.le_of_ble_eq_true rfl⟩) (fun H locs hw => ?_)
  refine lv_if_eq (tgt := 21) hx hb dX6_weight_10 (by decide) (fun hq3 => ?_) (fun hq3 => ?_)
  · have hm := (if_pos hq3).symm.trans hm
    refine lv_iconst (v := 0) hx hb dX6_weight_21 (by decide) ?_
    cases hm
    exact eI hx hb hr hlocks hK hw dX6_weight_22
  · have hm := (if_neg hq3).symm.trans hm
    refine lv_aload_n hx hb dX6_weight_13 rfl (lv_at hl 0 rfl) ?_
    refine lv_iload_n hx hb dX6_weight_14 rfl (lv_at hl 1 rfl) ?_
    obtain ⟨z4, e5, hm⟩ := bd_some hm
    refine ki hw Fr_hi (rV hx hb hml hts hown hK hw (c_X6_weightOf l h0 e5) h0 (by decide) rfl (mkV 1 hts k_ml_RX6_53 k_im_yX6_weightOf k_se_yX6_weightOf k_in_RX6 k_co_yX6_weightOf hd_X6_weightOf ⟨Nat.le_of_ble_eq_true rfl, Nat.le_of_ble_eq_true rfl⟩) rfl hl.1 rfl (Nat.le_of_ble_eq_true rfl) dX6_weight_15 ⟨Nat.le_of_ble_eq_true rfl, Nat.le_of_ble_eq_true rfl⟩) (fun H locs hw => ?_)
    refine lv_goto (tgt := 22) hx hb dX6_weight_18 (by decide) ?_
    cases hm
    exact eI hx hb hr hlocks hK hw dX6_weight_22
set_option maxHeartbeats 4000000 in
set_option maxRecDepth 100000 in
theorem c_X6_shareOf (l : Launch) {D : va_G} {cy : Nat → ClassId} {A : Nat → Nat} {G : Nat → Bool} {M : Mem} {sz : Nat} {a0 : Nat} {x1 : Int32} (h0 : TT G 5 a0)  {z : UInt32} (hm : m_X6_shareOf a0 x1 M = some z) : Met l yX6_shareOf (wm yX6_shareOf cX6_shareOf 4 (some .float)) ({ frames := 1, cells := 0, slots := 0, locals := 23 } : Room) (va_Pc [.ref (A a0), .int x1] (Pr D cy A G M sz)) (va_Qf (fun (r' : UInt32) (u : Mem) => r' = z ∧ u = M) (Po D cy A G (Fr A G sz)) (Fr A G sz))  0 0 (Fr A G sz) := by
  refine ofB (Qc := fun sz => va_Qf (fun (r' : UInt32) (u : Mem) => r' = z ∧ u = M) (Po D cy A G (Fr A G sz)) (Fr A G sz)) (by decide +kernel) (Nat.le_of_ble_eq_true rfl) ?_
  intro p e s m below meth c hx hb hr hts hown hlocks hml hmn hK hw ls hl
  have hl : lv_has ls 4 [(0, .ref (A a0)), (1, .int x1)] := hl
  have J4 : ∀  (n : Nat) (v2 : Int32) (v3 : Int32), m_X6_shareOf_L4 a0 x1 M n v2 v3 = some z → ∀ (H : Heap) (locs : List Loc), WD D cy (Fr A G s.heap.size) A s.heap G M H locs → ∀ ls : Array Slot, lv_has ls 4 [(0, .ref (A a0)), (1, .int x1), (2, .int v2), (3, .int v3)] → W p l e (headSpec (wm yX6_shareOf cX6_shareOf 4 (some .float)) ({ frames := 1, cells := 0, slots := 0, locals := 23 } : Room)).room s m ([.ref (A a0), .int x1] : List Value).toArray below meth c H locs 0 0 (MQ below (va_Qf (fun (r' : UInt32) (u : Mem) => r' = z ∧ u = M) (Po D cy A G (Fr A G s.heap.size)) (Fr A G s.heap.size)) ([.ref (A a0), .int x1] : List Value).toArray s 0 0 (Fr A G s.heap.size)) (F0 m 4 ls []) := by
    intro n
    induction n with
    | zero =>
      intro v2 v3 hm
      cases (show (none : Option UInt32) = some z from hm)
    | succ n ih =>
      intro v2 v3 hm H locs hw ls hl
      have hm := (m_X6_shareOf_L4_s a0 x1 M n v2 v3).symm.trans hm
      refine lv_iload_n hx hb dX6_shareOf_4 rfl (lv_at hl 3 rfl) ?_
      refine lv_aload_n hx hb dX6_shareOf_5 rfl (lv_at hl 0 rfl) ?_
      refine g5 hx hb hts hown hK hw h0 0 (by decide) (.ref (A 4)) rfl k_fl_RX6_7 (fun _ h => h) dX6_shareOf_6 ?_
      have hp1 := mo_s h0
      refine lv_iconst (v := 0) hx hb dX6_shareOf_9 (by decide) ?_
      obtain ⟨hi2, hm⟩ := ck_some hm
      refine gI hx hb hK hw hp1 hi2 dX6_shareOf_10 ?_
      refine lv_icmp_ge (tgt := 28) hx hb dX6_shareOf_11 (by decide) (fun hq3 => ?_) (fun hq3 => ?_)
      · have hm := (if_pos hq3).symm.trans hm
        refine lv_iload_n hx hb dX6_shareOf_28 rfl (lv_at hl 2 rfl) ?_
        refine lv_if_ne (tgt := 36) hx hb dX6_shareOf_29 (by decide) (fun hq4 => ?_) (fun hq4 => ?_)
        · have hm := (if_neg hq4).symm.trans hm
          refine lv_aload_n hx hb dX6_shareOf_36 rfl (lv_at hl 0 rfl) ?_
          refine lv_iload_n hx hb dX6_shareOf_37 rfl (lv_at hl 1 rfl) ?_
          obtain ⟨z5, e6, hm⟩ := bd_some hm
          refine ki hw Fr_hi (rV hx hb hml hts hown hK hw (c_X6_weightOf l h0 e6) h0 (by decide) rfl (mkV 1 hts k_ml_RX6_53 k_im_yX6_weightOf k_se_yX6_weightOf k_in_RX6 k_co_yX6_weightOf hd_X6_weightOf ⟨Nat.le_of_ble_eq_true rfl, Nat.le_of_ble_eq_true rfl⟩) rfl hl.1 rfl (Nat.le_of_ble_eq_true rfl) dX6_shareOf_38 ⟨Nat.le_of_ble_eq_true rfl, Nat.le_of_ble_eq_true rfl⟩) (fun H locs hw => ?_)
          refine lv_i2f hx hb dX6_shareOf_41 ?_
          refine lv_iload_n hx hb dX6_shareOf_42 rfl (lv_at hl 2 rfl) ?_
          refine lv_i2f hx hb dX6_shareOf_43 ?_
          obtain ⟨hz7, hm⟩ := ck_some hm
          refine lv_fdiv hx hb dX6_shareOf_44 hz7 ?_
          cases hm
          exact eF hx hb hr hlocks hK hw dX6_shareOf_45
        · have hm := (if_pos hq4).symm.trans hm
          refine lv_fconst0 hx hb dX6_shareOf_32 ?_
          refine lv_goto (tgt := 45) hx hb dX6_shareOf_33 (by decide) ?_
          cases hm
          exact eF hx hb hr hlocks hK hw dX6_shareOf_45
      · have hm := (if_neg hq3).symm.trans hm
        refine lv_iload_n hx hb dX6_shareOf_14 rfl (lv_at hl 2 rfl) ?_
        refine lv_aload_n hx hb dX6_shareOf_15 rfl (lv_at hl 0 rfl) ?_
        refine lv_iload_n hx hb dX6_shareOf_16 rfl (lv_at hl 3 rfl) ?_
        obtain ⟨z8, e9, hm⟩ := bd_some hm
        refine ki hw Fr_hi (rV hx hb hml hts hown hK hw (c_X6_weightOf l h0 e9) h0 (by decide) rfl (mkV 1 hts k_ml_RX6_53 k_im_yX6_weightOf k_se_yX6_weightOf k_in_RX6 k_co_yX6_weightOf hd_X6_weightOf ⟨Nat.le_of_ble_eq_true rfl, Nat.le_of_ble_eq_true rfl⟩) rfl hl.1 rfl (Nat.le_of_ble_eq_true rfl) dX6_shareOf_17 ⟨Nat.le_of_ble_eq_true rfl, Nat.le_of_ble_eq_true rfl⟩) (fun H locs hw => ?_)
        refine lv_iadd hx hb dX6_shareOf_20 ?_
        refine lv_istore_n (lv' := [(2, .int (v2 + z8)), (0, .ref (A a0)), (1, .int x1), (3, .int v3)]) hx hb dX6_shareOf_21 rfl hl (by decide) rfl (fun ls hl => ?_)
        refine lv_iinc (v := (v3 + 1)) (lv' := [(3, .int (v3 + 1)), (2, .int (v2 + z8)), (0, .ref (A a0)), (1, .int x1)]) hx hb dX6_shareOf_22 hl (k := 3) rfl rfl (by decide) rfl (fun ls hl => ?_)
        refine lv_goto (tgt := 4) hx hb dX6_shareOf_25 (by decide) ?_
        exact ih (v2 + z8) (v3 + 1) hm H locs hw ls (lv_sub hl [2, 3, 1, 0] rfl)
  unfold m_X6_shareOf at hm
  revert hw
  suffices K : ∀ (H : Heap) (locs : List Loc), WD D cy (Fr A G s.heap.size) A s.heap G M H locs → W p l e (headSpec (wm yX6_shareOf cX6_shareOf 4 (some .float)) ({ frames := 1, cells := 0, slots := 0, locals := 23 } : Room)).room s m ([.ref (A a0), .int x1] : List Value).toArray below meth c H locs 0 0 (MQ below (va_Qf (fun (r' : UInt32) (u : Mem) => r' = z ∧ u = M) (Po D cy A G (Fr A G s.heap.size)) (Fr A G s.heap.size)) ([.ref (A a0), .int x1] : List Value).toArray s 0 0 (Fr A G s.heap.size)) (F0 m 0 ls []) from fun hw => K _ _ hw
  intro H locs hw
  refine lv_iconst (v := 0) hx hb dX6_shareOf_0 (by decide) ?_
  refine lv_istore_n (lv' := [(2, .int 0), (0, .ref (A a0)), (1, .int x1)]) hx hb dX6_shareOf_1 rfl hl (by decide) rfl (fun ls hl => ?_)
  refine lv_iconst (v := 0) hx hb dX6_shareOf_2 (by decide) ?_
  refine lv_istore_n (lv' := [(3, .int 0), (2, .int 0), (0, .ref (A a0)), (1, .int x1)]) hx hb dX6_shareOf_3 rfl hl (by decide) rfl (fun ls hl => ?_)
  exact J4 fuel 0 0 hm H locs hw ls (lv_sub hl [2, 3, 1, 0] rfl)
set_option maxHeartbeats 4000000 in
set_option maxRecDepth 100000 in
theorem c_X6_share (l : Launch) {D : va_G} {cy : Nat → ClassId} {A : Nat → Nat} {G : Nat → Bool} {M : Mem} {sz : Nat} {a0 : Nat} {x1 : Int32} (h0 : TT G 5 a0)  {z : (UInt32 × Mem)} (hm : m_X6_share a0 x1 M = some z) : Met l yX6_share (wm yX6_share cX6_share 2 (some .float)) ({ frames := 2, cells := 0, slots := 0, locals := 46 } : Room) (va_Pc [.ref (A a0), .int x1] (Pr D cy A G M sz)) (va_Qf (fun (r' : UInt32) (u : Mem) => r' = z.1 ∧ u = z.2) (Po D cy A G (Fr A G sz)) (Fr A G sz))  0 0 (Fr A G sz) := by
  refine ofB (Qc := fun sz => va_Qf (fun (r' : UInt32) (u : Mem) => r' = z.1 ∧ u = z.2) (Po D cy A G (Fr A G sz)) (Fr A G sz)) (by decide +kernel) (Nat.le_of_ble_eq_true rfl) ?_
  intro p e s m below meth c hx hb hr hts hown hlocks hml hmn hK hw ls hl
  have hl : lv_has ls 2 [(0, .ref (A a0)), (1, .int x1)] := hl
  unfold m_X6_share at hm
  revert hw
  suffices K : ∀ (H : Heap) (locs : List Loc), WD D cy (Fr A G s.heap.size) A s.heap G M H locs → W p l e (headSpec (wm yX6_share cX6_share 2 (some .float)) ({ frames := 2, cells := 0, slots := 0, locals := 46 } : Room)).room s m ([.ref (A a0), .int x1] : List Value).toArray below meth c H locs 0 0 (MQ below (va_Qf (fun (r' : UInt32) (u : Mem) => r' = z.1 ∧ u = z.2) (Po D cy A G (Fr A G s.heap.size)) (Fr A G s.heap.size)) ([.ref (A a0), .int x1] : List Value).toArray s 0 0 (Fr A G s.heap.size)) (F0 m 0 ls []) from fun hw => K _ _ hw
  intro H locs hw
  refine lv_aload_n hx hb dX6_share_0 rfl (lv_at hl 0 rfl) ?_
  refine lv_aload_n hx hb dX6_share_1 rfl (lv_at hl 0 rfl) ?_
  refine lv_iload_n hx hb dX6_share_2 rfl (lv_at hl 1 rfl) ?_
  obtain ⟨z1, e2, hm⟩ := bd_some hm
  refine ki hw Fr_hi (rV hx hb hml hts hown hK hw (c_X6_isNode l h0 e2) h0 (by decide) rfl (mkV 1 hts k_ml_RX6_66 k_im_yX6_isNode k_se_yX6_isNode k_in_RX6 k_co_yX6_isNode hd_X6_isNode ⟨Nat.le_of_ble_eq_true rfl, Nat.le_of_ble_eq_true rfl⟩) rfl hl.1 rfl (Nat.le_of_ble_eq_true rfl) dX6_share_3 ⟨Nat.le_of_ble_eq_true rfl, Nat.le_of_ble_eq_true rfl⟩) (fun H locs hw => ?_)
  refine lv_iconst (v := 1) hx hb dX6_share_6 (by decide) ?_
  refine ki hw Fr_hi (rV hx hb hml hts hown hK hw (c_X6_isFine l h0 z1 1) h0 (by decide) rfl (mkV 2 hts k_ml_RX6_69 k_im_yX6_isFine k_se_yX6_isFine k_in_RX6 k_co_yX6_isFine hd_X6_isFine ⟨Nat.le_of_ble_eq_true rfl, Nat.le_of_ble_eq_true rfl⟩) rfl hl.1 rfl (Nat.le_of_ble_eq_true rfl) dX6_share_7 ⟨Nat.le_of_ble_eq_true rfl, Nat.le_of_ble_eq_true rfl⟩) (fun H locs hw => ?_)
  refine lv_if_eq (tgt := 21) hx hb dX6_share_10 (by decide) (fun hq3 => ?_) (fun hq3 => ?_)
  · have hm := (if_pos hq3).symm.trans hm
    refine lv_fconst0 hx hb dX6_share_21 ?_
    cases hm
    exact eF hx hb hr hlocks hK hw dX6_share_22
  · have hm := (if_neg hq3).symm.trans hm
    refine lv_aload_n hx hb dX6_share_13 rfl (lv_at hl 0 rfl) ?_
    refine lv_iload_n hx hb dX6_share_14 rfl (lv_at hl 1 rfl) ?_
    obtain ⟨z4, e5, hm⟩ := bd_some hm
    refine kf hw Fr_hi (rV hx hb hml hts hown hK hw (c_X6_shareOf l h0 e5) h0 (by decide) rfl (mkV 1 hts k_ml_RX6_91 k_im_yX6_shareOf k_se_yX6_shareOf k_in_RX6 k_co_yX6_shareOf hd_X6_shareOf ⟨Nat.le_of_ble_eq_true rfl, Nat.le_of_ble_eq_true rfl⟩) rfl hl.1 rfl (Nat.le_of_ble_eq_true rfl) dX6_share_15 ⟨Nat.le_of_ble_eq_true rfl, Nat.le_of_ble_eq_true rfl⟩) (fun H locs hw => ?_)
    refine lv_goto (tgt := 22) hx hb dX6_share_18 (by decide) ?_
    cases hm
    exact eF hx hb hr hlocks hK hw dX6_share_22
set_option maxHeartbeats 4000000 in
set_option maxRecDepth 100000 in
theorem c_X6_isFenced (l : Launch) {D : va_G} {cy : Nat → ClassId} {A : Nat → Nat} {G : Nat → Bool} {M : Mem} {sz : Nat} {a0 : Nat} {x1 : Int32} {x2 : Int32} (h0 : TT G 5 a0)  {z : (Int32 × Mem)} (hm : m_X6_isFenced a0 x1 x2 M = some z) : Met l yX6_isFenced (wm yX6_isFenced cX6_isFenced 3 (some .boolean)) ({ frames := 2, cells := 0, slots := 0, locals := 43 } : Room) (va_Pc [.ref (A a0), .int x1, .int x2] (Pr D cy A G M sz)) (va_Qi (fun (r' : Int32) (u : Mem) => r' = z.1 ∧ u = z.2) (Po D cy A G (Fr A G sz)) (Fr A G sz))  0 0 (Fr A G sz) := by
  refine ofB (Qc := fun sz => va_Qi (fun (r' : Int32) (u : Mem) => r' = z.1 ∧ u = z.2) (Po D cy A G (Fr A G sz)) (Fr A G sz)) (by decide +kernel) (Nat.le_of_ble_eq_true rfl) ?_
  intro p e s m below meth c hx hb hr hts hown hlocks hml hmn hK hw ls hl
  have hl : lv_has ls 3 [(0, .ref (A a0)), (1, .int x1), (2, .int x2)] := hl
  have J22 : ∀  (u0 : Nat) (u1 : Int32) (M : Mem) (hu0 : TT G 5 u0), m_X6_isFenced_b22 a0 x1 x2 u0 u1 M = some z → ∀ (H : Heap) (locs : List Loc), WD D cy (Fr A G s.heap.size) A s.heap G M H locs → ∀ ls : Array Slot, lv_has ls 3 [(0, .ref (A a0)), (1, .int x1), (2, .int x2)] → W p l e (headSpec (wm yX6_isFenced cX6_isFenced 3 (some .boolean)) ({ frames := 2, cells := 0, slots := 0, locals := 43 } : Room)).room s m ([.ref (A a0), .int x1, .int x2] : List Value).toArray below meth c H locs 0 0 (MQ below (va_Qi (fun (r' : Int32) (u : Mem) => r' = z.1 ∧ u = z.2) (Po D cy A G (Fr A G s.heap.size)) (Fr A G s.heap.size)) ([.ref (A a0), .int x1, .int x2] : List Value).toArray s 0 0 (Fr A G s.heap.size)) (F0 m 22 ls [.int u1, .ref (A u0)]) := by
    intro u0 u1 M hu0 hm H locs hw ls hl
    unfold m_X6_isFenced_b22 at hm
    refine lv_iconst (v := 1) hx hb dX6_isFenced_22 (by decide) ?_
    refine ki hw Fr_hi (rV hx hb hml hts hown hK hw (c_X6_isFine l hu0 u1 1) hu0 (by decide) rfl (mkV 2 hts k_ml_RX6_69 k_im_yX6_isFine k_se_yX6_isFine k_in_RX6 k_co_yX6_isFine hd_X6_isFine ⟨Nat.le_of_ble_eq_true rfl, Nat.le_of_ble_eq_true rfl⟩) rfl hl.1 rfl (Nat.le_of_ble_eq_true rfl) dX6_isFenced_23 ⟨Nat.le_of_ble_eq_true rfl, Nat.le_of_ble_eq_true rfl⟩) (fun H locs hw => ?_)
    refine lv_if_eq (tgt := 51) hx hb dX6_isFenced_26 (by decide) (fun hq4 => ?_) (fun hq4 => ?_)
    · have hm := (if_pos hq4).symm.trans hm
      refine lv_iconst (v := 0) hx hb dX6_isFenced_51 (by decide) ?_
      cases hm
      exact eZ (show zb 0 by decide) hx hb hr hlocks hK hw dX6_isFenced_52
    · have hm := (if_neg hq4).symm.trans hm
      refine lv_aload_n hx hb dX6_isFenced_29 rfl (lv_at hl 0 rfl) ?_
      refine g5 hx hb hts hown hK hw h0 0 (by decide) (.ref (A 4)) rfl k_fl_RX6_7 (fun _ h => h) dX6_isFenced_30 ?_
      have hp5 := mo_s h0
      refine lv_sipush (v := 2099) hx hb dX6_isFenced_33 (by decide) ?_
      refine lv_iconst (v := 4) hx hb dX6_isFenced_36 (by decide) ?_
      refine lv_iload_n hx hb dX6_isFenced_37 rfl (lv_at hl 1 rfl) ?_
      refine lv_imul hx hb dX6_isFenced_38 ?_
      refine lv_iadd hx hb dX6_isFenced_39 ?_
      refine lv_iload_n hx hb dX6_isFenced_40 rfl (lv_at hl 2 rfl) ?_
      refine lv_iadd hx hb dX6_isFenced_41 ?_
      obtain ⟨hi6, hm⟩ := ck_some hm
      refine gI hx hb hK hw hp5 hi6 dX6_isFenced_42 ?_
      refine lv_iconst (v := 1) hx hb dX6_isFenced_43 (by decide) ?_
      refine lv_icmp_ne (tgt := 51) hx hb dX6_isFenced_44 (by decide) (fun hq7 => ?_) (fun hq7 => ?_)
      · have hm := (if_neg hq7).symm.trans hm
        refine lv_iconst (v := 0) hx hb dX6_isFenced_51 (by decide) ?_
        cases hm
        exact eZ (show zb 0 by decide) hx hb hr hlocks hK hw dX6_isFenced_52
      · have hm := (if_pos hq7).symm.trans hm
        refine lv_iconst (v := 1) hx hb dX6_isFenced_47 (by decide) ?_
        refine lv_goto (tgt := 52) hx hb dX6_isFenced_48 (by decide) ?_
        cases hm
        exact eZ (show zb 1 by decide) hx hb hr hlocks hK hw dX6_isFenced_52
  unfold m_X6_isFenced at hm
  revert hw
  suffices K : ∀ (H : Heap) (locs : List Loc), WD D cy (Fr A G s.heap.size) A s.heap G M H locs → W p l e (headSpec (wm yX6_isFenced cX6_isFenced 3 (some .boolean)) ({ frames := 2, cells := 0, slots := 0, locals := 43 } : Room)).room s m ([.ref (A a0), .int x1, .int x2] : List Value).toArray below meth c H locs 0 0 (MQ below (va_Qi (fun (r' : Int32) (u : Mem) => r' = z.1 ∧ u = z.2) (Po D cy A G (Fr A G s.heap.size)) (Fr A G s.heap.size)) ([.ref (A a0), .int x1, .int x2] : List Value).toArray s 0 0 (Fr A G s.heap.size)) (F0 m 0 ls []) from fun hw => K _ _ hw
  intro H locs hw
  refine lv_aload_n hx hb dX6_isFenced_0 rfl (lv_at hl 0 rfl) ?_
  refine lv_aload_n hx hb dX6_isFenced_1 rfl (lv_at hl 0 rfl) ?_
  refine lv_iload_n hx hb dX6_isFenced_2 rfl (lv_at hl 1 rfl) ?_
  obtain ⟨z1, e2, hm⟩ := bd_some hm
  refine ki hw Fr_hi (rV hx hb hml hts hown hK hw (c_X6_isNode l h0 e2) h0 (by decide) rfl (mkV 1 hts k_ml_RX6_66 k_im_yX6_isNode k_se_yX6_isNode k_in_RX6 k_co_yX6_isNode hd_X6_isNode ⟨Nat.le_of_ble_eq_true rfl, Nat.le_of_ble_eq_true rfl⟩) rfl hl.1 rfl (Nat.le_of_ble_eq_true rfl) dX6_isFenced_3 ⟨Nat.le_of_ble_eq_true rfl, Nat.le_of_ble_eq_true rfl⟩) (fun H locs hw => ?_)
  refine lv_if_eq (tgt := 21) hx hb dX6_isFenced_6 (by decide) (fun hq3 => ?_) (fun hq3 => ?_)
  · have hm := (if_pos hq3).symm.trans hm
    refine lv_iconst (v := 0) hx hb dX6_isFenced_21 (by decide) ?_
    exact J22 a0 0 M h0 hm H locs hw ls hl
  · have hm := (if_neg hq3).symm.trans hm
    refine lv_aload_n hx hb dX6_isFenced_9 rfl (lv_at hl 0 rfl) ?_
    refine lv_iload_n hx hb dX6_isFenced_10 rfl (lv_at hl 2 rfl) ?_
    obtain ⟨z8, e9, hm⟩ := bd_some hm
    refine ki hw Fr_hi (rV hx hb hml hts hown hK hw (c_X6_isLedger l h0 e9) h0 (by decide) rfl (mkV 1 hts k_ml_RX6_95 k_im_yX6_isLedger k_se_yX6_isLedger k_in_RX6 k_co_yX6_isLedger hd_X6_isLedger ⟨Nat.le_of_ble_eq_true rfl, Nat.le_of_ble_eq_true rfl⟩) rfl hl.1 rfl (Nat.le_of_ble_eq_true rfl) dX6_isFenced_11 ⟨Nat.le_of_ble_eq_true rfl, Nat.le_of_ble_eq_true rfl⟩) (fun H locs hw => ?_)
    refine lv_if_eq (tgt := 21) hx hb dX6_isFenced_14 (by decide) (fun hq10 => ?_) (fun hq10 => ?_)
    · have hm := (if_pos hq10).symm.trans hm
      refine lv_iconst (v := 0) hx hb dX6_isFenced_21 (by decide) ?_
      exact J22 a0 0 M h0 hm H locs hw ls hl
    · have hm := (if_neg hq10).symm.trans hm
      refine lv_iconst (v := 1) hx hb dX6_isFenced_17 (by decide) ?_
      refine lv_goto (tgt := 22) hx hb dX6_isFenced_18 (by decide) ?_
      exact J22 a0 1 M h0 hm H locs hw ls hl
set_option maxHeartbeats 4000000 in
set_option maxRecDepth 100000 in
theorem c_X6_rejections (l : Launch) {D : va_G} {cy : Nat → ClassId} {A : Nat → Nat} {G : Nat → Bool} {M : Mem} {sz : Nat} {a0 : Nat} (h0 : TT G 5 a0)  {z : (Int32 × Mem)} (hm : m_X6_rejections a0 M = some z) : Met l yX6_rejections (wm yX6_rejections cX6_rejections 1 (some .int)) ({ frames := 0, cells := 0, slots := 0, locals := 0 } : Room) (va_Pc [.ref (A a0)] (Pr D cy A G M sz)) (va_Qi (fun (r' : Int32) (u : Mem) => r' = z.1 ∧ u = z.2) (Po D cy A G (Fr A G sz)) (Fr A G sz))  0 0 (Fr A G sz) := by
  refine ofB (Qc := fun sz => va_Qi (fun (r' : Int32) (u : Mem) => r' = z.1 ∧ u = z.2) (Po D cy A G (Fr A G sz)) (Fr A G sz)) (by decide +kernel) (Nat.le_of_ble_eq_true rfl) ?_
  intro p e s m below meth c hx hb hr hts hown hlocks hml hmn hK hw ls hl
  have hl : lv_has ls 1 [(0, .ref (A a0))] := hl
  unfold m_X6_rejections at hm
  revert hw
  suffices K : ∀ (H : Heap) (locs : List Loc), WD D cy (Fr A G s.heap.size) A s.heap G M H locs → W p l e (headSpec (wm yX6_rejections cX6_rejections 1 (some .int)) ({ frames := 0, cells := 0, slots := 0, locals := 0 } : Room)).room s m ([.ref (A a0)] : List Value).toArray below meth c H locs 0 0 (MQ below (va_Qi (fun (r' : Int32) (u : Mem) => r' = z.1 ∧ u = z.2) (Po D cy A G (Fr A G s.heap.size)) (Fr A G s.heap.size)) ([.ref (A a0)] : List Value).toArray s 0 0 (Fr A G s.heap.size)) (F0 m 0 ls []) from fun hw => K _ _ hw
  intro H locs hw
  refine lv_aload_n hx hb dX6_rejections_0 rfl (lv_at hl 0 rfl) ?_
  refine lv_iconst (v := 0) hx hb dX6_rejections_1 (by decide) ?_
  refine p5 hx hb hts hown hK hw h0 3 (by decide) k_fl_RX6_20 (fun _ h => h) dX6_rejections_2 (fun H locs hw => ?_)
  refine lv_aload_n hx hb dX6_rejections_5 rfl (lv_at hl 0 rfl) ?_
  refine g5 hx hb hts hown hK hw h0 0 (by decide) (.ref (A 4)) rfl k_fl_RX6_7 (fun _ h => h) dX6_rejections_6 ?_
  have hp1 := mo_s h0
  refine lv_iconst (v := 2) hx hb dX6_rejections_9 (by decide) ?_
  obtain ⟨hi2, hm⟩ := ck_some hm
  refine gI hx hb hK hw hp1 hi2 dX6_rejections_10 ?_
  cases hm
  exact eI hx hb hr hlocks hK hw dX6_rejections_11
set_option maxHeartbeats 4000000 in
set_option maxRecDepth 100000 in
theorem c_X6_ups (l : Launch) {D : va_G} {cy : Nat → ClassId} {A : Nat → Nat} {G : Nat → Bool} {M : Mem} {sz : Nat} {a0 : Nat} (h0 : TT G 5 a0)  {z : Int32} (hm : m_X6_ups a0 M = some z) : Met l yX6_ups (wm yX6_ups cX6_ups 3 (some .int)) ({ frames := 0, cells := 0, slots := 0, locals := 0 } : Room) (va_Pc [.ref (A a0)] (Pr D cy A G M sz)) (va_Qi (fun (r' : Int32) (u : Mem) => r' = z ∧ u = M) (Po D cy A G (Fr A G sz)) (Fr A G sz))  0 0 (Fr A G sz) := by
  refine ofB (Qc := fun sz => va_Qi (fun (r' : Int32) (u : Mem) => r' = z ∧ u = M) (Po D cy A G (Fr A G sz)) (Fr A G sz)) (by decide +kernel) (Nat.le_of_ble_eq_true rfl) ?_
  intro p e s m below meth c hx hb hr hts hown hlocks hml hmn hK hw ls hl
  have hl : lv_has ls 3 [(0, .ref (A a0))] := hl
  have J4 : ∀  (n : Nat) (v1 : Int32) (v2 : Int32), m_X6_ups_L4 a0 M n v1 v2 = some z → ∀ (H : Heap) (locs : List Loc), WD D cy (Fr A G s.heap.size) A s.heap G M H locs → ∀ ls : Array Slot, lv_has ls 3 [(0, .ref (A a0)), (1, .int v1), (2, .int v2)] → W p l e (headSpec (wm yX6_ups cX6_ups 3 (some .int)) ({ frames := 0, cells := 0, slots := 0, locals := 0 } : Room)).room s m ([.ref (A a0)] : List Value).toArray below meth c H locs 0 0 (MQ below (va_Qi (fun (r' : Int32) (u : Mem) => r' = z ∧ u = M) (Po D cy A G (Fr A G s.heap.size)) (Fr A G s.heap.size)) ([.ref (A a0)] : List Value).toArray s 0 0 (Fr A G s.heap.size)) (F0 m 4 ls []) := by
    intro n
    induction n with
    | zero =>
      intro v1 v2 hm
      cases (show (none : Option Int32) = some z from hm)
    | succ n ih =>
      intro v1 v2 hm H locs hw ls hl
      have hm := (m_X6_ups_L4_s a0 M n v1 v2).symm.trans hm
      refine lv_iload_n hx hb dX6_ups_4 rfl (lv_at hl 2 rfl) ?_
      refine lv_aload_n hx hb dX6_ups_5 rfl (lv_at hl 0 rfl) ?_
      refine g5 hx hb hts hown hK hw h0 0 (by decide) (.ref (A 4)) rfl k_fl_RX6_7 (fun _ h => h) dX6_ups_6 ?_
      have hp1 := mo_s h0
      refine lv_iconst (v := 0) hx hb dX6_ups_9 (by decide) ?_
      obtain ⟨hi2, hm⟩ := ck_some hm
      refine gI hx hb hK hw hp1 hi2 dX6_ups_10 ?_
      refine lv_icmp_ge (tgt := 31) hx hb dX6_ups_11 (by decide) (fun hq3 => ?_) (fun hq3 => ?_)
      · have hm := (if_pos hq3).symm.trans hm
        refine lv_iload_n hx hb dX6_ups_31 rfl (lv_at hl 1 rfl) ?_
        cases hm
        exact eI hx hb hr hlocks hK hw dX6_ups_32
      · have hm := (if_neg hq3).symm.trans hm
        refine lv_iload_n hx hb dX6_ups_14 rfl (lv_at hl 1 rfl) ?_
        refine lv_aload_n hx hb dX6_ups_15 rfl (lv_at hl 0 rfl) ?_
        refine g5 hx hb hts hown hK hw h0 0 (by decide) (.ref (A 4)) rfl k_fl_RX6_7 (fun _ h => h) dX6_ups_16 ?_
        have hp4 := mo_s h0
        refine lv_iconst (v := 3) hx hb dX6_ups_19 (by decide) ?_
        refine lv_iload_n hx hb dX6_ups_20 rfl (lv_at hl 2 rfl) ?_
        refine lv_iadd hx hb dX6_ups_21 ?_
        obtain ⟨hi5, hm⟩ := ck_some hm
        refine gI hx hb hK hw hp4 hi5 dX6_ups_22 ?_
        refine lv_iadd hx hb dX6_ups_23 ?_
        refine lv_istore_n (lv' := [(1, .int (v1 + (gR M 4 (cl (3 + v2))))), (0, .ref (A a0)), (2, .int v2)]) hx hb dX6_ups_24 rfl hl (by decide) rfl (fun ls hl => ?_)
        refine lv_iinc (v := (v2 + 1)) (lv' := [(2, .int (v2 + 1)), (1, .int (v1 + (gR M 4 (cl (3 + v2))))), (0, .ref (A a0))]) hx hb dX6_ups_25 hl (k := 2) rfl rfl (by decide) rfl (fun ls hl => ?_)
        refine lv_goto (tgt := 4) hx hb dX6_ups_28 (by decide) ?_
        exact ih (v1 + (gR M 4 (cl (3 + v2)))) (v2 + 1) hm H locs hw ls (lv_sub hl [2, 1, 0] rfl)
  unfold m_X6_ups at hm
  revert hw
  suffices K : ∀ (H : Heap) (locs : List Loc), WD D cy (Fr A G s.heap.size) A s.heap G M H locs → W p l e (headSpec (wm yX6_ups cX6_ups 3 (some .int)) ({ frames := 0, cells := 0, slots := 0, locals := 0 } : Room)).room s m ([.ref (A a0)] : List Value).toArray below meth c H locs 0 0 (MQ below (va_Qi (fun (r' : Int32) (u : Mem) => r' = z ∧ u = M) (Po D cy A G (Fr A G s.heap.size)) (Fr A G s.heap.size)) ([.ref (A a0)] : List Value).toArray s 0 0 (Fr A G s.heap.size)) (F0 m 0 ls []) from fun hw => K _ _ hw
  intro H locs hw
  refine lv_iconst (v := 0) hx hb dX6_ups_0 (by decide) ?_
  refine lv_istore_n (lv' := [(1, .int 0), (0, .ref (A a0))]) hx hb dX6_ups_1 rfl hl (by decide) rfl (fun ls hl => ?_)
  refine lv_iconst (v := 0) hx hb dX6_ups_2 (by decide) ?_
  refine lv_istore_n (lv' := [(2, .int 0), (1, .int 0), (0, .ref (A a0))]) hx hb dX6_ups_3 rfl hl (by decide) rfl (fun ls hl => ?_)
  exact J4 fuel 0 0 hm H locs hw ls (lv_sub hl [2, 1, 0] rfl)
set_option maxHeartbeats 4000000 in
set_option maxRecDepth 100000 in
theorem c_X6_createLedger (l : Launch) {D : va_G} {cy : Nat → ClassId} {A : Nat → Nat} {G : Nat → Bool} {M : Mem} {sz : Nat} {a0 : Nat} {x1 : Int32} {x2 : Int32} {x3 : Int32} (h0 : TT G 5 a0)  {z : (Int32 × Mem)} (hm : m_X6_createLedger a0 x1 x2 x3 M = some z) : Met l yX6_createLedger (wm yX6_createLedger cX6_createLedger 9 (some .int)) ({ frames := 2, cells := 0, slots := 0, locals := 47 } : Room) (va_Pc [.ref (A a0), .int x1, .int x2, .int x3] (Pr D cy A G M sz)) (va_Qi (fun (r' : Int32) (u : Mem) => r' = z.1 ∧ u = z.2) (Po D cy A G (Fr A G sz)) (Fr A G sz))  0 0 (Fr A G sz) := by
  refine ofB (Qc := fun sz => va_Qi (fun (r' : Int32) (u : Mem) => r' = z.1 ∧ u = z.2) (Po D cy A G (Fr A G sz)) (Fr A G sz)) (by decide +kernel) (Nat.le_of_ble_eq_true rfl) ?_
  intro p e s m below meth c hx hb hr hts hown hlocks hml hmn hK hw ls hl
  have hl : lv_has ls 9 [(0, .ref (A a0)), (1, .int x1), (2, .int x2), (3, .int x3)] := hl
  have J137 : ∀  (n : Nat) (v5 : Int32) (v6 : Int32) (v7 : Int32) (M : Mem), m_X6_createLedger_L137 a0 x1 x2 x3 n v5 v6 v7 M = some z → ∀ (H : Heap) (locs : List Loc), WD D cy (Fr A G s.heap.size) A s.heap G M H locs → ∀ ls : Array Slot, lv_has ls 9 [(0, .ref (A a0)), (1, .int x1), (5, .int v5), (6, .int v6), (7, .int v7)] → W p l e (headSpec (wm yX6_createLedger cX6_createLedger 9 (some .int)) ({ frames := 2, cells := 0, slots := 0, locals := 47 } : Room)).room s m ([.ref (A a0), .int x1, .int x2, .int x3] : List Value).toArray below meth c H locs 0 0 (MQ below (va_Qi (fun (r' : Int32) (u : Mem) => r' = z.1 ∧ u = z.2) (Po D cy A G (Fr A G s.heap.size)) (Fr A G s.heap.size)) ([.ref (A a0), .int x1, .int x2, .int x3] : List Value).toArray s 0 0 (Fr A G s.heap.size)) (F0 m 137 ls []) := by
    intro n
    induction n with
    | zero =>
      intro v5 v6 v7 M hm
      cases (show (none : Option (Int32 × Mem)) = some z from hm)
    | succ n ih =>
      intro v5 v6 v7 M hm H locs hw ls hl
      have hm := (m_X6_createLedger_L137_s a0 x1 x2 x3 n v5 v6 v7 M).symm.trans hm
      refine lv_iload hx hb dX6_createLedger_137 (lv_at hl 4 rfl) ?_
      refine lv_iload_n hx hb dX6_createLedger_139 rfl (lv_at hl 1 rfl) ?_
      refine lv_icmp_ge (tgt := 180) hx hb dX6_createLedger_140 (by decide) (fun hq23 => ?_) (fun hq23 => ?_)
      · have hm := (if_pos hq23).symm.trans hm
        refine lv_iload hx hb dX6_createLedger_180 (lv_at hl 2 rfl) ?_
        cases hm
        exact eI hx hb hr hlocks hK hw dX6_createLedger_182
      · have hm := (if_neg hq23).symm.trans hm
        refine lv_aload_n hx hb dX6_createLedger_143 rfl (lv_at hl 0 rfl) ?_
        refine lv_iload hx hb dX6_createLedger_144 (lv_at hl 3 rfl) ?_
        obtain ⟨z24, e25, hm⟩ := bd_some hm
        refine ki hw Fr_hi (rV hx hb hml hts hown hK hw (c_X6_choose l h0 e25) h0 (by decide) rfl (mkV 1 hts k_ml_RX6_102 k_im_yX6_choose k_se_yX6_choose k_in_RX6 k_co_yX6_choose hd_X6_choose ⟨Nat.le_of_ble_eq_true rfl, Nat.le_of_ble_eq_true rfl⟩) rfl hl.1 rfl (Nat.le_of_ble_eq_true rfl) dX6_createLedger_146 ⟨Nat.le_of_ble_eq_true rfl, Nat.le_of_ble_eq_true rfl⟩) (fun H locs hw => ?_)
        refine lv_istore (lv' := [(8, .int z24), (0, .ref (A a0)), (1, .int x1), (5, .int v5), (6, .int v6), (7, .int v7)]) hx hb dX6_createLedger_149 hl (by decide) rfl (fun ls hl => ?_)
        refine lv_aload_n hx hb dX6_createLedger_151 rfl (lv_at hl 1 rfl) ?_
        refine lv_iload hx hb dX6_createLedger_152 (lv_at hl 3 rfl) ?_
        refine lv_sipush (v := 128) hx hb dX6_createLedger_154 (by decide) ?_
        refine lv_iload hx hb dX6_createLedger_157 (lv_at hl 5 rfl) ?_
        refine lv_iadd hx hb dX6_createLedger_159 ?_
        refine lv_iload hx hb dX6_createLedger_160 (lv_at hl 0 rfl) ?_
        obtain ⟨z26, e27, hm⟩ := bd_some hm
        refine kv hw Fr_hi (rV hx hb hml hts hown hK hw (c_X6_set l h0 e27) h0 (by decide) rfl (mkV 3 hts k_ml_RX6_84 k_im_yX6_set k_se_yX6_set k_in_RX6 k_co_yX6_set hd_X6_set ⟨Nat.le_of_ble_eq_true rfl, Nat.le_of_ble_eq_true rfl⟩) rfl hl.1 rfl (Nat.le_of_ble_eq_true rfl) dX6_createLedger_162 ⟨Nat.le_of_ble_eq_true rfl, Nat.le_of_ble_eq_true rfl⟩) (fun H locs hw => ?_)
        refine lv_iload hx hb dX6_createLedger_165 (lv_at hl 4 rfl) ?_
        refine lv_iconst (v := 1) hx hb dX6_createLedger_167 (by decide) ?_
        refine lv_iload hx hb dX6_createLedger_168 (lv_at hl 0 rfl) ?_
        refine lv_ishl hx hb dX6_createLedger_170 ?_
        refine lv_ior hx hb dX6_createLedger_171 ?_
        refine lv_istore (lv' := [(6, .int (v6 ||| (1 <<< (z24 &&& 31)))), (8, .int z24), (0, .ref (A a0)), (1, .int x1), (5, .int v5), (7, .int v7)]) hx hb dX6_createLedger_172 hl (by decide) rfl (fun ls hl => ?_)
        refine lv_iinc (v := (v7 + 1)) (lv' := [(7, .int (v7 + 1)), (6, .int (v6 ||| (1 <<< (z24 &&& 31)))), (8, .int z24), (0, .ref (A a0)), (1, .int x1), (5, .int v5)]) hx hb dX6_createLedger_174 hl (k := 5) rfl rfl (by decide) rfl (fun ls hl => ?_)
        refine lv_goto (tgt := 137) hx hb dX6_createLedger_177 (by decide) ?_
        exact ih v5 (v6 ||| (1 <<< (z24 &&& 31))) (v7 + 1) z26 hm H locs hw ls (lv_sub hl [3, 4, 5, 1, 0] rfl)
  have J60 : ∀  (u0 : Nat) (u1 : Int32) (u2 : Int32) (M : Mem) (hu0 : TT G 5 u0), m_X6_createLedger_b60 a0 x1 x2 x3 u0 u1 u2 M = some z → ∀ (H : Heap) (locs : List Loc), WD D cy (Fr A G s.heap.size) A s.heap G M H locs → ∀ ls : Array Slot, lv_has ls 9 [(0, .ref (A a0)), (1, .int x1), (2, .int x2), (3, .int x3)] → W p l e (headSpec (wm yX6_createLedger cX6_createLedger 9 (some .int)) ({ frames := 2, cells := 0, slots := 0, locals := 47 } : Room)).room s m ([.ref (A a0), .int x1, .int x2, .int x3] : List Value).toArray below meth c H locs 0 0 (MQ below (va_Qi (fun (r' : Int32) (u : Mem) => r' = z.1 ∧ u = z.2) (Po D cy A G (Fr A G s.heap.size)) (Fr A G s.heap.size)) ([.ref (A a0), .int x1, .int x2, .int x3] : List Value).toArray s 0 0 (Fr A G s.heap.size)) (F0 m 60 ls [.int u2, .int u1, .ref (A u0)]) := by
    intro u0 u1 u2 M hu0 hm H locs hw ls hl
    unfold m_X6_createLedger_b60 at hm
    refine ki hw Fr_hi (rV hx hb hml hts hown hK hw (c_X6_isFine l hu0 u1 u2) hu0 (by decide) rfl (mkV 2 hts k_ml_RX6_69 k_im_yX6_isFine k_se_yX6_isFine k_in_RX6 k_co_yX6_isFine hd_X6_isFine ⟨Nat.le_of_ble_eq_true rfl, Nat.le_of_ble_eq_true rfl⟩) rfl hl.1 rfl (Nat.le_of_ble_eq_true rfl) dX6_createLedger_60 ⟨Nat.le_of_ble_eq_true rfl, Nat.le_of_ble_eq_true rfl⟩) (fun H locs hw => ?_)
    refine lv_if_ne (tgt := 68) hx hb dX6_createLedger_63 (by decide) (fun hq5 => ?_) (fun hq5 => ?_)
    · have hm := (if_neg hq5).symm.trans hm
      refine lv_aload_n hx hb dX6_createLedger_68 rfl (lv_at hl 0 rfl) ?_
      obtain ⟨z6, e7, hm⟩ := bd_some hm
      refine kv hw Fr_hi (rV hx hb hml hts hown hK hw (c_X6_note l h0 e7) h0 (by decide) rfl (mkV 0 hts k_ml_RX6_63 k_im_yX6_note k_se_yX6_note k_in_RX6 k_co_yX6_note hd_X6_note ⟨Nat.le_of_ble_eq_true rfl, Nat.le_of_ble_eq_true rfl⟩) rfl hl.1 rfl (Nat.le_of_ble_eq_true rfl) dX6_createLedger_69 ⟨Nat.le_of_ble_eq_true rfl, Nat.le_of_ble_eq_true rfl⟩) (fun H locs hw => ?_)
      refine lv_aload_n hx hb dX6_createLedger_72 rfl (lv_at hl 0 rfl) ?_
      refine g5 hx hb hts hown hK hw h0 0 (by decide) (.ref (A 4)) rfl k_fl_RX6_7 (fun _ h => h) dX6_createLedger_73 ?_
      have hp8 := mo_s h0
      refine lv_iconst (v := 1) hx hb dX6_createLedger_76 (by decide) ?_
      obtain ⟨hi9, hm⟩ := ck_some hm
      refine gI hx hb hK hw hp8 hi9 dX6_createLedger_77 ?_
      refine lv_istore (lv' := [(5, .int (gR z6 4 (cl 1))), (0, .ref (A a0)), (1, .int x1), (2, .int x2), (3, .int x3)]) hx hb dX6_createLedger_78 hl (by decide) rfl (fun ls hl => ?_)
      refine lv_aload_n hx hb dX6_createLedger_80 rfl (lv_at hl 1 rfl) ?_
      refine g5 hx hb hts hown hK hw h0 0 (by decide) (.ref (A 4)) rfl k_fl_RX6_7 (fun _ h => h) dX6_createLedger_81 ?_
      have hp10 := mo_s h0
      refine lv_iconst (v := 1) hx hb dX6_createLedger_84 (by decide) ?_
      refine lv_dup2_11 hx hb dX6_createLedger_85 rfl rfl ?_
      obtain ⟨hi11, hm⟩ := ck_some hm
      refine gI hx hb hK hw hp10 hi11 dX6_createLedger_86 ?_
      refine lv_iconst (v := 1) hx hb dX6_createLedger_87 (by decide) ?_
      refine lv_iadd hx hb dX6_createLedger_88 ?_
      obtain ⟨hi12, hm⟩ := ck_some hm
      refine pI hx hb hK hw hp10 hi12 dX6_createLedger_89 (fun H locs hw => ?_)
      refine lv_aload_n hx hb dX6_createLedger_90 rfl (lv_at hl 1 rfl) ?_
      refine lv_iload hx hb dX6_createLedger_91 (lv_at hl 0 rfl) ?_
      refine lv_iconst (v := 0) hx hb dX6_createLedger_93 (by decide) ?_
      refine lv_iload_n hx hb dX6_createLedger_94 rfl (lv_at hl 2 rfl) ?_
      obtain ⟨z13, e14, hm⟩ := bd_some hm
      refine kv hw Fr_hi (rV hx hb hml hts hown hK hw (c_X6_set l h0 e14) h0 (by decide) rfl (mkV 3 hts k_ml_RX6_84 k_im_yX6_set k_se_yX6_set k_in_RX6 k_co_yX6_set hd_X6_set ⟨Nat.le_of_ble_eq_true rfl, Nat.le_of_ble_eq_true rfl⟩) rfl hl.1 rfl (Nat.le_of_ble_eq_true rfl) dX6_createLedger_95 ⟨Nat.le_of_ble_eq_true rfl, Nat.le_of_ble_eq_true rfl⟩) (fun H locs hw => ?_)
      refine lv_aload_n hx hb dX6_createLedger_98 rfl (lv_at hl 1 rfl) ?_
      refine lv_iload hx hb dX6_createLedger_99 (lv_at hl 0 rfl) ?_
      refine lv_iconst (v := 1) hx hb dX6_createLedger_101 (by decide) ?_
      refine lv_iload_n hx hb dX6_createLedger_102 rfl (lv_at hl 3 rfl) ?_
      obtain ⟨z15, e16, hm⟩ := bd_some hm
      refine kv hw Fr_hi (rV hx hb hml hts hown hK hw (c_X6_set l h0 e16) h0 (by decide) rfl (mkV 3 hts k_ml_RX6_84 k_im_yX6_set k_se_yX6_set k_in_RX6 k_co_yX6_set hd_X6_set ⟨Nat.le_of_ble_eq_true rfl, Nat.le_of_ble_eq_true rfl⟩) rfl hl.1 rfl (Nat.le_of_ble_eq_true rfl) dX6_createLedger_103 ⟨Nat.le_of_ble_eq_true rfl, Nat.le_of_ble_eq_true rfl⟩) (fun H locs hw => ?_)
      refine lv_aload_n hx hb dX6_createLedger_106 rfl (lv_at hl 1 rfl) ?_
      refine lv_iload hx hb dX6_createLedger_107 (lv_at hl 0 rfl) ?_
      refine lv_iconst (v := 2) hx hb dX6_createLedger_109 (by decide) ?_
      refine lv_iload_n hx hb dX6_createLedger_110 rfl (lv_at hl 4 rfl) ?_
      obtain ⟨z17, e18, hm⟩ := bd_some hm
      refine kv hw Fr_hi (rV hx hb hml hts hown hK hw (c_X6_set l h0 e18) h0 (by decide) rfl (mkV 3 hts k_ml_RX6_84 k_im_yX6_set k_se_yX6_set k_in_RX6 k_co_yX6_set hd_X6_set ⟨Nat.le_of_ble_eq_true rfl, Nat.le_of_ble_eq_true rfl⟩) rfl hl.1 rfl (Nat.le_of_ble_eq_true rfl) dX6_createLedger_111 ⟨Nat.le_of_ble_eq_true rfl, Nat.le_of_ble_eq_true rfl⟩) (fun H locs hw => ?_)
      refine lv_aload_n hx hb dX6_createLedger_114 rfl (lv_at hl 1 rfl) ?_
      refine lv_iload hx hb dX6_createLedger_115 (lv_at hl 0 rfl) ?_
      refine lv_iconst (v := 5) hx hb dX6_createLedger_117 (by decide) ?_
      refine lv_iconst (v := (-1)) hx hb dX6_createLedger_118 (by decide) ?_
      obtain ⟨z19, e20, hm⟩ := bd_some hm
      refine kv hw Fr_hi (rV hx hb hml hts hown hK hw (c_X6_set l h0 e20) h0 (by decide) rfl (mkV 3 hts k_ml_RX6_84 k_im_yX6_set k_se_yX6_set k_in_RX6 k_co_yX6_set hd_X6_set ⟨Nat.le_of_ble_eq_true rfl, Nat.le_of_ble_eq_true rfl⟩) rfl hl.1 rfl (Nat.le_of_ble_eq_true rfl) dX6_createLedger_119 ⟨Nat.le_of_ble_eq_true rfl, Nat.le_of_ble_eq_true rfl⟩) (fun H locs hw => ?_)
      refine lv_aload_n hx hb dX6_createLedger_122 rfl (lv_at hl 1 rfl) ?_
      refine lv_iload hx hb dX6_createLedger_123 (lv_at hl 0 rfl) ?_
      refine lv_bipush (v := 6) hx hb dX6_createLedger_125 (by decide) ?_
      refine lv_iconst (v := 1) hx hb dX6_createLedger_127 (by decide) ?_
      obtain ⟨z21, e22, hm⟩ := bd_some hm
      refine kv hw Fr_hi (rV hx hb hml hts hown hK hw (c_X6_set l h0 e22) h0 (by decide) rfl (mkV 3 hts k_ml_RX6_84 k_im_yX6_set k_se_yX6_set k_in_RX6 k_co_yX6_set hd_X6_set ⟨Nat.le_of_ble_eq_true rfl, Nat.le_of_ble_eq_true rfl⟩) rfl hl.1 rfl (Nat.le_of_ble_eq_true rfl) dX6_createLedger_128 ⟨Nat.le_of_ble_eq_true rfl, Nat.le_of_ble_eq_true rfl⟩) (fun H locs hw => ?_)
      refine lv_iconst (v := 0) hx hb dX6_createLedger_131 (by decide) ?_
      refine lv_istore (lv' := [(6, .int 0), (5, .int (gR z6 4 (cl 1))), (0, .ref (A a0)), (1, .int x1), (2, .int x2), (3, .int x3)]) hx hb dX6_createLedger_132 hl (by decide) rfl (fun ls hl => ?_)
      refine lv_iconst (v := 0) hx hb dX6_createLedger_134 (by decide) ?_
      refine lv_istore (lv' := [(7, .int 0), (6, .int 0), (5, .int (gR z6 4 (cl 1))), (0, .ref (A a0)), (1, .int x1), (2, .int x2), (3, .int x3)]) hx hb dX6_createLedger_135 hl (by decide) rfl (fun ls hl => ?_)
      exact J137 fuel (gR z6 4 (cl 1)) 0 0 z21 hm H locs hw ls (lv_sub hl [3, 4, 2, 1, 0] rfl)
    · have hm := (if_pos hq5).symm.trans hm
      refine lv_iconst (v := 0) hx hb dX6_createLedger_66 (by decide) ?_
      cases hm
      exact eI hx hb hr hlocks hK hw dX6_createLedger_67
  have J32 : ∀  (u0 : Int32) (M : Mem), m_X6_createLedger_b32 a0 x1 x2 x3 u0 M = some z → ∀ (H : Heap) (locs : List Loc), WD D cy (Fr A G s.heap.size) A s.heap G M H locs → ∀ ls : Array Slot, lv_has ls 9 [(0, .ref (A a0)), (1, .int x1), (2, .int x2), (3, .int x3)] → W p l e (headSpec (wm yX6_createLedger cX6_createLedger 9 (some .int)) ({ frames := 2, cells := 0, slots := 0, locals := 47 } : Room)).room s m ([.ref (A a0), .int x1, .int x2, .int x3] : List Value).toArray below meth c H locs 0 0 (MQ below (va_Qi (fun (r' : Int32) (u : Mem) => r' = z.1 ∧ u = z.2) (Po D cy A G (Fr A G s.heap.size)) (Fr A G s.heap.size)) ([.ref (A a0), .int x1, .int x2, .int x3] : List Value).toArray s 0 0 (Fr A G s.heap.size)) (F0 m 32 ls [.int u0]) := by
    intro u0 M hm H locs hw ls hl
    unfold m_X6_createLedger_b32 at hm
    refine lv_istore (lv' := [(4, .int u0), (0, .ref (A a0)), (1, .int x1), (2, .int x2), (3, .int x3)]) hx hb dX6_createLedger_32 hl (by decide) rfl (fun ls hl => ?_)
    refine lv_aload_n hx hb dX6_createLedger_34 rfl (lv_at hl 1 rfl) ?_
    refine lv_iload hx hb dX6_createLedger_35 (lv_at hl 0 rfl) ?_
    refine lv_aload_n hx hb dX6_createLedger_37 rfl (lv_at hl 1 rfl) ?_
    refine g5 hx hb hts hown hK hw h0 0 (by decide) (.ref (A 4)) rfl k_fl_RX6_7 (fun _ h => h) dX6_createLedger_38 ?_
    have hp2 := mo_s h0
    refine lv_iconst (v := 1) hx hb dX6_createLedger_41 (by decide) ?_
    obtain ⟨hi3, hm⟩ := ck_some hm
    refine gI hx hb hK hw hp2 hi3 dX6_createLedger_42 ?_
    refine lv_iconst (v := 4) hx hb dX6_createLedger_43 (by decide) ?_
    refine lv_icmp_ge (tgt := 59) hx hb dX6_createLedger_44 (by decide) (fun hq4 => ?_) (fun hq4 => ?_)
    · have hm := (if_pos hq4).symm.trans hm
      refine lv_iconst (v := 0) hx hb dX6_createLedger_59 (by decide) ?_
      exact J60 a0 u0 0 M h0 hm H locs hw ls (lv_sub hl [1, 2, 3, 4] rfl)
    · have hm := (if_neg hq4).symm.trans hm
      refine lv_aload_n hx hb dX6_createLedger_47 rfl (lv_at hl 1 rfl) ?_
      obtain ⟨z28, e29, hm⟩ := bd_some hm
      refine ki hw Fr_hi (rV hx hb hml hts hown hK hw (c_X6_ups l h0 e29) h0 (by decide) rfl (mkV 0 hts k_ml_RX6_98 k_im_yX6_ups k_se_yX6_ups k_in_RX6 k_co_yX6_ups hd_X6_ups ⟨Nat.le_of_ble_eq_true rfl, Nat.le_of_ble_eq_true rfl⟩) rfl hl.1 rfl (Nat.le_of_ble_eq_true rfl) dX6_createLedger_48 ⟨Nat.le_of_ble_eq_true rfl, Nat.le_of_ble_eq_true rfl⟩) (fun H locs hw => ?_)
      refine lv_iload_n hx hb dX6_createLedger_51 rfl (lv_at hl 2 rfl) ?_
      refine lv_icmp_lt (tgt := 59) hx hb dX6_createLedger_52 (by decide) (fun hq30 => ?_) (fun hq30 => ?_)
      · have hm := (if_pos hq30).symm.trans hm
        refine lv_iconst (v := 0) hx hb dX6_createLedger_59 (by decide) ?_
        exact J60 a0 u0 0 M h0 hm H locs hw ls (lv_sub hl [1, 2, 3, 4] rfl)
      · have hm := (if_neg hq30).symm.trans hm
        refine lv_iconst (v := 1) hx hb dX6_createLedger_55 (by decide) ?_
        refine lv_goto (tgt := 60) hx hb dX6_createLedger_56 (by decide) ?_
        exact J60 a0 u0 1 M h0 hm H locs hw ls (lv_sub hl [1, 2, 3, 4] rfl)
  unfold m_X6_createLedger at hm
  revert hw
  suffices K : ∀ (H : Heap) (locs : List Loc), WD D cy (Fr A G s.heap.size) A s.heap G M H locs → W p l e (headSpec (wm yX6_createLedger cX6_createLedger 9 (some .int)) ({ frames := 2, cells := 0, slots := 0, locals := 47 } : Room)).room s m ([.ref (A a0), .int x1, .int x2, .int x3] : List Value).toArray below meth c H locs 0 0 (MQ below (va_Qi (fun (r' : Int32) (u : Mem) => r' = z.1 ∧ u = z.2) (Po D cy A G (Fr A G s.heap.size)) (Fr A G s.heap.size)) ([.ref (A a0), .int x1, .int x2, .int x3] : List Value).toArray s 0 0 (Fr A G s.heap.size)) (F0 m 0 ls []) from fun hw => K _ _ hw
  intro H locs hw
  refine lv_iload_n hx hb dX6_createLedger_0 rfl (lv_at hl 1 rfl) ?_
  refine lv_iconst (v := 1) hx hb dX6_createLedger_1 (by decide) ?_
  refine lv_iconst (v := 5) hx hb dX6_createLedger_2 (by decide) ?_
  refine ki hw Fr_hi (rS hx hb hml hts hown hK hw (c_X6_in l x1 1 5) (mkS 3 hts k_ml_RX6_23 k_st_yX6_in k_in_RX6 k_co_yX6_in hd_X6_in ⟨Nat.le_of_ble_eq_true rfl, Nat.le_of_ble_eq_true rfl⟩) rfl hl.1 rfl (Nat.le_of_ble_eq_true rfl) dX6_createLedger_3 ⟨Nat.le_of_ble_eq_true rfl, Nat.le_of_ble_eq_true rfl⟩) (fun H locs hw => ?_)
  refine lv_if_eq (tgt := 31) hx hb dX6_createLedger_6 (by decide) (fun hq1 => ?_) (fun hq1 => ?_)
  · have hm := (if_pos hq1).symm.trans hm
    refine lv_iconst (v := 0) hx hb dX6_createLedger_31 (by decide) ?_
    exact J32 0 M hm H locs hw ls hl
  · have hm := (if_neg hq1).symm.trans hm
    refine lv_iload_n hx hb dX6_createLedger_9 rfl (lv_at hl 2 rfl) ?_
    refine lv_iconst (v := 1) hx hb dX6_createLedger_10 (by decide) ?_
    refine lv_iload_n hx hb dX6_createLedger_11 rfl (lv_at hl 1 rfl) ?_
    refine ki hw Fr_hi (rS hx hb hml hts hown hK hw (c_X6_in l x2 1 x1) (mkS 3 hts k_ml_RX6_23 k_st_yX6_in k_in_RX6 k_co_yX6_in hd_X6_in ⟨Nat.le_of_ble_eq_true rfl, Nat.le_of_ble_eq_true rfl⟩) rfl hl.1 rfl (Nat.le_of_ble_eq_true rfl) dX6_createLedger_12 ⟨Nat.le_of_ble_eq_true rfl, Nat.le_of_ble_eq_true rfl⟩) (fun H locs hw => ?_)
    refine lv_if_eq (tgt := 31) hx hb dX6_createLedger_15 (by decide) (fun hq31 => ?_) (fun hq31 => ?_)
    · have hm := (if_pos hq31).symm.trans hm
      refine lv_iconst (v := 0) hx hb dX6_createLedger_31 (by decide) ?_
      exact J32 0 M hm H locs hw ls hl
    · have hm := (if_neg hq31).symm.trans hm
      refine lv_iload_n hx hb dX6_createLedger_18 rfl (lv_at hl 3 rfl) ?_
      refine lv_iconst (v := 1) hx hb dX6_createLedger_19 (by decide) ?_
      refine lv_iload_n hx hb dX6_createLedger_20 rfl (lv_at hl 2 rfl) ?_
      refine ki hw Fr_hi (rS hx hb hml hts hown hK hw (c_X6_in l x3 1 x2) (mkS 3 hts k_ml_RX6_23 k_st_yX6_in k_in_RX6 k_co_yX6_in hd_X6_in ⟨Nat.le_of_ble_eq_true rfl, Nat.le_of_ble_eq_true rfl⟩) rfl hl.1 rfl (Nat.le_of_ble_eq_true rfl) dX6_createLedger_21 ⟨Nat.le_of_ble_eq_true rfl, Nat.le_of_ble_eq_true rfl⟩) (fun H locs hw => ?_)
      refine lv_if_eq (tgt := 31) hx hb dX6_createLedger_24 (by decide) (fun hq32 => ?_) (fun hq32 => ?_)
      · have hm := (if_pos hq32).symm.trans hm
        refine lv_iconst (v := 0) hx hb dX6_createLedger_31 (by decide) ?_
        exact J32 0 M hm H locs hw ls hl
      · have hm := (if_neg hq32).symm.trans hm
        refine lv_iconst (v := 1) hx hb dX6_createLedger_27 (by decide) ?_
        refine lv_goto (tgt := 32) hx hb dX6_createLedger_28 (by decide) ?_
        exact J32 1 M hm H locs hw ls hl
set_option maxHeartbeats 4000000 in
set_option maxRecDepth 100000 in
theorem c_X6_append (l : Launch) {D : va_G} {cy : Nat → ClassId} {A : Nat → Nat} {G : Nat → Bool} {M : Mem} {sz : Nat} {a0 : Nat} {x1 : Int32} {x2 : Int32} (h0 : TT G 5 a0)  {z : (Int32 × Mem)} (hm : m_X6_append a0 x1 x2 M = some z) : Met l yX6_append (wm yX6_append cX6_append 7 (some .int)) ({ frames := 3, cells := 0, slots := 0, locals := 69 } : Room) (va_Pc [.ref (A a0), .int x1, .int x2] (Pr D cy A G M sz)) (va_Qi (fun (r' : Int32) (u : Mem) => r' = z.1 ∧ u = z.2) (Po D cy A G (Fr A G sz)) (Fr A G sz))  0 0 (Fr A G sz) := by
  refine ofB (Qc := fun sz => va_Qi (fun (r' : Int32) (u : Mem) => r' = z.1 ∧ u = z.2) (Po D cy A G (Fr A G sz)) (Fr A G sz)) (by decide +kernel) (Nat.le_of_ble_eq_true rfl) ?_
  intro p e s m below meth c hx hb hr hts hown hlocks hml hmn hK hw ls hl
  have hl : lv_has ls 7 [(0, .ref (A a0)), (1, .int x1), (2, .int x2)] := hl
  have J118 : ∀  (n : Nat) (v4 : Int32) (v5 : Int32) (v6 : Int32) (M : Mem), m_X6_append_L118 a0 x1 x2 n v4 v5 v6 M = some z → ∀ (H : Heap) (locs : List Loc), WD D cy (Fr A G s.heap.size) A s.heap G M H locs → ∀ ls : Array Slot, lv_has ls 7 [(0, .ref (A a0)), (1, .int x1), (4, .int v4), (5, .int v5), (6, .int v6)] → W p l e (headSpec (wm yX6_append cX6_append 7 (some .int)) ({ frames := 3, cells := 0, slots := 0, locals := 69 } : Room)).room s m ([.ref (A a0), .int x1, .int x2] : List Value).toArray below meth c H locs 0 0 (MQ below (va_Qi (fun (r' : Int32) (u : Mem) => r' = z.1 ∧ u = z.2) (Po D cy A G (Fr A G s.heap.size)) (Fr A G s.heap.size)) ([.ref (A a0), .int x1, .int x2] : List Value).toArray s 0 0 (Fr A G s.heap.size)) (F0 m 118 ls []) := by
    intro n
    induction n with
    | zero =>
      intro v4 v5 v6 M hm
      cases (show (none : Option (Int32 × Mem)) = some z from hm)
    | succ n ih =>
      intro v4 v5 v6 M hm H locs hw ls hl
      have hm := (m_X6_append_L118_s a0 x1 x2 n v4 v5 v6 M).symm.trans hm
      refine lv_iload hx hb dX6_append_118 (lv_at hl 4 rfl) ?_
      refine lv_aload_n hx hb dX6_append_120 rfl (lv_at hl 0 rfl) ?_
      refine lv_iload_n hx hb dX6_append_121 rfl (lv_at hl 1 rfl) ?_
      refine lv_iconst (v := 1) hx hb dX6_append_122 (by decide) ?_
      obtain ⟨z18, e19, hm⟩ := bd_some hm
      refine ki hw Fr_hi (rV hx hb hml hts hown hK hw (c_X6_of l h0 e19) h0 (by decide) rfl (mkV 2 hts k_ml_RX6_31 k_im_yX6_of k_se_yX6_of k_in_RX6 k_co_yX6_of hd_X6_of ⟨Nat.le_of_ble_eq_true rfl, Nat.le_of_ble_eq_true rfl⟩) rfl hl.1 rfl (Nat.le_of_ble_eq_true rfl) dX6_append_123 ⟨Nat.le_of_ble_eq_true rfl, Nat.le_of_ble_eq_true rfl⟩) (fun H locs hw => ?_)
      refine lv_icmp_ge (tgt := 160) hx hb dX6_append_126 (by decide) (fun hq20 => ?_) (fun hq20 => ?_)
      · have hm := (if_pos hq20).symm.trans hm
        refine lv_iload hx hb dX6_append_160 (lv_at hl 2 rfl) ?_
        cases hm
        exact eI hx hb hr hlocks hK hw dX6_append_162
      · have hm := (if_neg hq20).symm.trans hm
        refine lv_aload_n hx hb dX6_append_129 rfl (lv_at hl 0 rfl) ?_
        refine lv_aload_n hx hb dX6_append_130 rfl (lv_at hl 0 rfl) ?_
        refine lv_iload_n hx hb dX6_append_131 rfl (lv_at hl 1 rfl) ?_
        refine lv_aload_n hx hb dX6_append_132 rfl (lv_at hl 0 rfl) ?_
        refine lv_iload_n hx hb dX6_append_133 rfl (lv_at hl 1 rfl) ?_
        refine lv_iload hx hb dX6_append_134 (lv_at hl 2 rfl) ?_
        obtain ⟨z21, e22, hm⟩ := bd_some hm
        refine ki hw Fr_hi (rV hx hb hml hts hown hK hw (c_X6_fragmentOf l h0 e22) h0 (by decide) rfl (mkV 2 hts k_ml_RX6_38 k_im_yX6_fragmentOf k_se_yX6_fragmentOf k_in_RX6 k_co_yX6_fragmentOf hd_X6_fragmentOf ⟨Nat.le_of_ble_eq_true rfl, Nat.le_of_ble_eq_true rfl⟩) rfl hl.1 rfl (Nat.le_of_ble_eq_true rfl) dX6_append_136 ⟨Nat.le_of_ble_eq_true rfl, Nat.le_of_ble_eq_true rfl⟩) (fun H locs hw => ?_)
        refine lv_iload hx hb dX6_append_139 (lv_at hl 2 rfl) ?_
        refine lv_iload hx hb dX6_append_141 (lv_at hl 4 rfl) ?_
        obtain ⟨z23, e24, hm⟩ := bd_some hm
        refine ki hw Fr_hi (rV hx hb hml hts hown hK hw (c_X6_writer l h0 e24) h0 (by decide) rfl (mkV 4 hts k_ml_RX6_41 k_im_yX6_writer k_se_yX6_writer k_in_RX6 k_co_yX6_writer hd_X6_writer ⟨Nat.le_of_ble_eq_true rfl, Nat.le_of_ble_eq_true rfl⟩) rfl hl.1 rfl (Nat.le_of_ble_eq_true rfl) dX6_append_143 ⟨Nat.le_of_ble_eq_true rfl, Nat.le_of_ble_eq_true rfl⟩) (fun H locs hw => ?_)
        refine lv_iload_n hx hb dX6_append_146 rfl (lv_at hl 1 rfl) ?_
        refine lv_iload hx hb dX6_append_147 (lv_at hl 2 rfl) ?_
        refine lv_iload hx hb dX6_append_149 (lv_at hl 3 rfl) ?_
        obtain ⟨z25, e26, hm⟩ := bd_some hm
        refine kv hw Fr_hi (rV hx hb hml hts hown hK hw (c_X6_send l h0 e26) h0 (by decide) rfl (mkV 4 hts k_ml_RX6_105 k_im_yX6_send k_se_yX6_send k_in_RX6 k_co_yX6_send hd_X6_send ⟨Nat.le_of_ble_eq_true rfl, Nat.le_of_ble_eq_true rfl⟩) rfl hl.1 rfl (Nat.le_of_ble_eq_true rfl) dX6_append_151 ⟨Nat.le_of_ble_eq_true rfl, Nat.le_of_ble_eq_true rfl⟩) (fun H locs hw => ?_)
        refine lv_iinc (v := (v6 + 1)) (lv' := [(6, .int (v6 + 1)), (0, .ref (A a0)), (1, .int x1), (4, .int v4), (5, .int v5)]) hx hb dX6_append_154 hl (k := 4) rfl rfl (by decide) rfl (fun ls hl => ?_)
        refine lv_goto (tgt := 118) hx hb dX6_append_157 (by decide) ?_
        exact ih v4 v5 (v6 + 1) z25 hm H locs hw ls (lv_sub hl [1, 2, 3, 4, 0] rfl)
  have J56 : ∀  (u0 : Nat) (u1 : Int32) (u2 : Int32) (M : Mem) (hu0 : TT G 5 u0), m_X6_append_b56 a0 x1 x2 u0 u1 u2 M = some z → ∀ (H : Heap) (locs : List Loc), WD D cy (Fr A G s.heap.size) A s.heap G M H locs → ∀ ls : Array Slot, lv_has ls 7 [(0, .ref (A a0)), (1, .int x1), (2, .int x2)] → W p l e (headSpec (wm yX6_append cX6_append 7 (some .int)) ({ frames := 3, cells := 0, slots := 0, locals := 69 } : Room)).room s m ([.ref (A a0), .int x1, .int x2] : List Value).toArray below meth c H locs 0 0 (MQ below (va_Qi (fun (r' : Int32) (u : Mem) => r' = z.1 ∧ u = z.2) (Po D cy A G (Fr A G s.heap.size)) (Fr A G s.heap.size)) ([.ref (A a0), .int x1, .int x2] : List Value).toArray s 0 0 (Fr A G s.heap.size)) (F0 m 56 ls [.int u2, .int u1, .ref (A u0)]) := by
    intro u0 u1 u2 M hu0 hm H locs hw ls hl
    unfold m_X6_append_b56 at hm
    refine ki hw Fr_hi (rV hx hb hml hts hown hK hw (c_X6_isFine l hu0 u1 u2) hu0 (by decide) rfl (mkV 2 hts k_ml_RX6_69 k_im_yX6_isFine k_se_yX6_isFine k_in_RX6 k_co_yX6_isFine hd_X6_isFine ⟨Nat.le_of_ble_eq_true rfl, Nat.le_of_ble_eq_true rfl⟩) rfl hl.1 rfl (Nat.le_of_ble_eq_true rfl) dX6_append_56 ⟨Nat.le_of_ble_eq_true rfl, Nat.le_of_ble_eq_true rfl⟩) (fun H locs hw => ?_)
    refine lv_if_ne (tgt := 64) hx hb dX6_append_59 (by decide) (fun hq5 => ?_) (fun hq5 => ?_)
    · have hm := (if_neg hq5).symm.trans hm
      refine lv_aload_n hx hb dX6_append_64 rfl (lv_at hl 0 rfl) ?_
      obtain ⟨z6, e7, hm⟩ := bd_some hm
      refine kv hw Fr_hi (rV hx hb hml hts hown hK hw (c_X6_note l h0 e7) h0 (by decide) rfl (mkV 0 hts k_ml_RX6_63 k_im_yX6_note k_se_yX6_note k_in_RX6 k_co_yX6_note hd_X6_note ⟨Nat.le_of_ble_eq_true rfl, Nat.le_of_ble_eq_true rfl⟩) rfl hl.1 rfl (Nat.le_of_ble_eq_true rfl) dX6_append_65 ⟨Nat.le_of_ble_eq_true rfl, Nat.le_of_ble_eq_true rfl⟩) (fun H locs hw => ?_)
      refine lv_aload_n hx hb dX6_append_68 rfl (lv_at hl 0 rfl) ?_
      refine lv_iload_n hx hb dX6_append_69 rfl (lv_at hl 1 rfl) ?_
      refine lv_iconst (v := 4) hx hb dX6_append_70 (by decide) ?_
      obtain ⟨z8, e9, hm⟩ := bd_some hm
      refine ki hw Fr_hi (rV hx hb hml hts hown hK hw (c_X6_of l h0 e9) h0 (by decide) rfl (mkV 2 hts k_ml_RX6_31 k_im_yX6_of k_se_yX6_of k_in_RX6 k_co_yX6_of hd_X6_of ⟨Nat.le_of_ble_eq_true rfl, Nat.le_of_ble_eq_true rfl⟩) rfl hl.1 rfl (Nat.le_of_ble_eq_true rfl) dX6_append_71 ⟨Nat.le_of_ble_eq_true rfl, Nat.le_of_ble_eq_true rfl⟩) (fun H locs hw => ?_)
      refine lv_istore (lv' := [(4, .int z8), (0, .ref (A a0)), (1, .int x1), (2, .int x2)]) hx hb dX6_append_74 hl (by decide) rfl (fun ls hl => ?_)
      refine lv_aload_n hx hb dX6_append_76 rfl (lv_at hl 1 rfl) ?_
      refine lv_iload_n hx hb dX6_append_77 rfl (lv_at hl 2 rfl) ?_
      obtain ⟨z10, e11, hm⟩ := bd_some hm
      refine ki hw Fr_hi (rV hx hb hml hts hown hK hw (c_X6_confirmed l h0 e11) h0 (by decide) rfl (mkV 1 hts k_ml_RX6_60 k_im_yX6_confirmed k_se_yX6_confirmed k_in_RX6 k_co_yX6_confirmed hd_X6_confirmed ⟨Nat.le_of_ble_eq_true rfl, Nat.le_of_ble_eq_true rfl⟩) rfl hl.1 rfl (Nat.le_of_ble_eq_true rfl) dX6_append_78 ⟨Nat.le_of_ble_eq_true rfl, Nat.le_of_ble_eq_true rfl⟩) (fun H locs hw => ?_)
      refine lv_istore (lv' := [(5, .int z10), (4, .int z8), (0, .ref (A a0)), (1, .int x1), (2, .int x2)]) hx hb dX6_append_81 hl (by decide) rfl (fun ls hl => ?_)
      refine lv_aload_n hx hb dX6_append_83 rfl (lv_at hl 2 rfl) ?_
      refine lv_iload_n hx hb dX6_append_84 rfl (lv_at hl 3 rfl) ?_
      refine lv_bipush (v := 7) hx hb dX6_append_85 (by decide) ?_
      refine lv_iload hx hb dX6_append_87 (lv_at hl 1 rfl) ?_
      refine lv_iadd hx hb dX6_append_89 ?_
      refine lv_iload_n hx hb dX6_append_90 rfl (lv_at hl 4 rfl) ?_
      obtain ⟨z12, e13, hm⟩ := bd_some hm
      refine kv hw Fr_hi (rV hx hb hml hts hown hK hw (c_X6_set l h0 e13) h0 (by decide) rfl (mkV 3 hts k_ml_RX6_84 k_im_yX6_set k_se_yX6_set k_in_RX6 k_co_yX6_set hd_X6_set ⟨Nat.le_of_ble_eq_true rfl, Nat.le_of_ble_eq_true rfl⟩) rfl hl.1 rfl (Nat.le_of_ble_eq_true rfl) dX6_append_91 ⟨Nat.le_of_ble_eq_true rfl, Nat.le_of_ble_eq_true rfl⟩) (fun H locs hw => ?_)
      refine lv_aload_n hx hb dX6_append_94 rfl (lv_at hl 2 rfl) ?_
      refine lv_iload_n hx hb dX6_append_95 rfl (lv_at hl 3 rfl) ?_
      refine lv_bipush (v := 47) hx hb dX6_append_96 (by decide) ?_
      refine lv_iload hx hb dX6_append_98 (lv_at hl 1 rfl) ?_
      refine lv_iadd hx hb dX6_append_100 ?_
      refine lv_iconst (v := 0) hx hb dX6_append_101 (by decide) ?_
      obtain ⟨z14, e15, hm⟩ := bd_some hm
      refine kv hw Fr_hi (rV hx hb hml hts hown hK hw (c_X6_set l h0 e15) h0 (by decide) rfl (mkV 3 hts k_ml_RX6_84 k_im_yX6_set k_se_yX6_set k_in_RX6 k_co_yX6_set hd_X6_set ⟨Nat.le_of_ble_eq_true rfl, Nat.le_of_ble_eq_true rfl⟩) rfl hl.1 rfl (Nat.le_of_ble_eq_true rfl) dX6_append_102 ⟨Nat.le_of_ble_eq_true rfl, Nat.le_of_ble_eq_true rfl⟩) (fun H locs hw => ?_)
      refine lv_aload_n hx hb dX6_append_105 rfl (lv_at hl 2 rfl) ?_
      refine lv_iload_n hx hb dX6_append_106 rfl (lv_at hl 3 rfl) ?_
      refine lv_iconst (v := 4) hx hb dX6_append_107 (by decide) ?_
      refine lv_iload hx hb dX6_append_108 (lv_at hl 1 rfl) ?_
      refine lv_iconst (v := 1) hx hb dX6_append_110 (by decide) ?_
      refine lv_iadd hx hb dX6_append_111 ?_
      obtain ⟨z16, e17, hm⟩ := bd_some hm
      refine kv hw Fr_hi (rV hx hb hml hts hown hK hw (c_X6_set l h0 e17) h0 (by decide) rfl (mkV 3 hts k_ml_RX6_84 k_im_yX6_set k_se_yX6_set k_in_RX6 k_co_yX6_set hd_X6_set ⟨Nat.le_of_ble_eq_true rfl, Nat.le_of_ble_eq_true rfl⟩) rfl hl.1 rfl (Nat.le_of_ble_eq_true rfl) dX6_append_112 ⟨Nat.le_of_ble_eq_true rfl, Nat.le_of_ble_eq_true rfl⟩) (fun H locs hw => ?_)
      refine lv_iconst (v := 0) hx hb dX6_append_115 (by decide) ?_
      refine lv_istore (lv' := [(6, .int 0), (5, .int z10), (4, .int z8), (0, .ref (A a0)), (1, .int x1), (2, .int x2)]) hx hb dX6_append_116 hl (by decide) rfl (fun ls hl => ?_)
      exact J118 fuel z8 z10 0 z16 hm H locs hw ls (lv_sub hl [3, 4, 2, 1, 0] rfl)
    · have hm := (if_pos hq5).symm.trans hm
      refine lv_iconst (v := 0) hx hb dX6_append_62 (by decide) ?_
      cases hm
      exact eI hx hb hr hlocks hK hw dX6_append_63
  have J24 : ∀  (u0 : Int32) (M : Mem), m_X6_append_b24 a0 x1 x2 u0 M = some z → ∀ (H : Heap) (locs : List Loc), WD D cy (Fr A G s.heap.size) A s.heap G M H locs → ∀ ls : Array Slot, lv_has ls 7 [(0, .ref (A a0)), (1, .int x1), (2, .int x2)] → W p l e (headSpec (wm yX6_append cX6_append 7 (some .int)) ({ frames := 3, cells := 0, slots := 0, locals := 69 } : Room)).room s m ([.ref (A a0), .int x1, .int x2] : List Value).toArray below meth c H locs 0 0 (MQ below (va_Qi (fun (r' : Int32) (u : Mem) => r' = z.1 ∧ u = z.2) (Po D cy A G (Fr A G s.heap.size)) (Fr A G s.heap.size)) ([.ref (A a0), .int x1, .int x2] : List Value).toArray s 0 0 (Fr A G s.heap.size)) (F0 m 24 ls [.int u0]) := by
    intro u0 M hm H locs hw ls hl
    unfold m_X6_append_b24 at hm
    refine lv_istore_n (lv' := [(3, .int u0), (0, .ref (A a0)), (1, .int x1), (2, .int x2)]) hx hb dX6_append_24 rfl hl (by decide) rfl (fun ls hl => ?_)
    refine lv_aload_n hx hb dX6_append_25 rfl (lv_at hl 1 rfl) ?_
    refine lv_iload_n hx hb dX6_append_26 rfl (lv_at hl 0 rfl) ?_
    refine lv_iload_n hx hb dX6_append_27 rfl (lv_at hl 0 rfl) ?_
    refine lv_if_eq (tgt := 55) hx hb dX6_append_28 (by decide) (fun hq4 => ?_) (fun hq4 => ?_)
    · have hm := (if_pos hq4).symm.trans hm
      refine lv_iconst (v := 0) hx hb dX6_append_55 (by decide) ?_
      exact J56 a0 u0 0 M h0 hm H locs hw ls (lv_sub hl [1, 2, 3] rfl)
    · have hm := (if_neg hq4).symm.trans hm
      refine lv_aload_n hx hb dX6_append_31 rfl (lv_at hl 1 rfl) ?_
      refine lv_iload_n hx hb dX6_append_32 rfl (lv_at hl 2 rfl) ?_
      refine lv_iconst (v := 3) hx hb dX6_append_33 (by decide) ?_
      obtain ⟨z27, e28, hm⟩ := bd_some hm
      refine ki hw Fr_hi (rV hx hb hml hts hown hK hw (c_X6_of l h0 e28) h0 (by decide) rfl (mkV 2 hts k_ml_RX6_31 k_im_yX6_of k_se_yX6_of k_in_RX6 k_co_yX6_of hd_X6_of ⟨Nat.le_of_ble_eq_true rfl, Nat.le_of_ble_eq_true rfl⟩) rfl hl.1 rfl (Nat.le_of_ble_eq_true rfl) dX6_append_34 ⟨Nat.le_of_ble_eq_true rfl, Nat.le_of_ble_eq_true rfl⟩) (fun H locs hw => ?_)
      refine lv_if_ne (tgt := 55) hx hb dX6_append_37 (by decide) (fun hq29 => ?_) (fun hq29 => ?_)
      · have hm := (if_neg hq29).symm.trans hm
        refine lv_iconst (v := 0) hx hb dX6_append_55 (by decide) ?_
        exact J56 a0 u0 0 M h0 hm H locs hw ls (lv_sub hl [1, 2, 3] rfl)
      · have hm := (if_pos hq29).symm.trans hm
        refine lv_aload_n hx hb dX6_append_40 rfl (lv_at hl 1 rfl) ?_
        refine lv_iload_n hx hb dX6_append_41 rfl (lv_at hl 2 rfl) ?_
        refine lv_iconst (v := 4) hx hb dX6_append_42 (by decide) ?_
        obtain ⟨z30, e31, hm⟩ := bd_some hm
        refine ki hw Fr_hi (rV hx hb hml hts hown hK hw (c_X6_of l h0 e31) h0 (by decide) rfl (mkV 2 hts k_ml_RX6_31 k_im_yX6_of k_se_yX6_of k_in_RX6 k_co_yX6_of hd_X6_of ⟨Nat.le_of_ble_eq_true rfl, Nat.le_of_ble_eq_true rfl⟩) rfl hl.1 rfl (Nat.le_of_ble_eq_true rfl) dX6_append_43 ⟨Nat.le_of_ble_eq_true rfl, Nat.le_of_ble_eq_true rfl⟩) (fun H locs hw => ?_)
        refine lv_bipush (v := 40) hx hb dX6_append_46 (by decide) ?_
        refine lv_icmp_ge (tgt := 55) hx hb dX6_append_48 (by decide) (fun hq32 => ?_) (fun hq32 => ?_)
        · have hm := (if_pos hq32).symm.trans hm
          refine lv_iconst (v := 0) hx hb dX6_append_55 (by decide) ?_
          exact J56 a0 u0 0 M h0 hm H locs hw ls (lv_sub hl [1, 2, 3] rfl)
        · have hm := (if_neg hq32).symm.trans hm
          refine lv_iconst (v := 1) hx hb dX6_append_51 (by decide) ?_
          refine lv_goto (tgt := 56) hx hb dX6_append_52 (by decide) ?_
          exact J56 a0 u0 1 M h0 hm H locs hw ls (lv_sub hl [1, 2, 3] rfl)
  unfold m_X6_append at hm
  revert hw
  suffices K : ∀ (H : Heap) (locs : List Loc), WD D cy (Fr A G s.heap.size) A s.heap G M H locs → W p l e (headSpec (wm yX6_append cX6_append 7 (some .int)) ({ frames := 3, cells := 0, slots := 0, locals := 69 } : Room)).room s m ([.ref (A a0), .int x1, .int x2] : List Value).toArray below meth c H locs 0 0 (MQ below (va_Qi (fun (r' : Int32) (u : Mem) => r' = z.1 ∧ u = z.2) (Po D cy A G (Fr A G s.heap.size)) (Fr A G s.heap.size)) ([.ref (A a0), .int x1, .int x2] : List Value).toArray s 0 0 (Fr A G s.heap.size)) (F0 m 0 ls []) from fun hw => K _ _ hw
  intro H locs hw
  refine lv_aload_n hx hb dX6_append_0 rfl (lv_at hl 0 rfl) ?_
  refine lv_iload_n hx hb dX6_append_1 rfl (lv_at hl 1 rfl) ?_
  obtain ⟨z1, e2, hm⟩ := bd_some hm
  refine ki hw Fr_hi (rV hx hb hml hts hown hK hw (c_X6_isLedger l h0 e2) h0 (by decide) rfl (mkV 1 hts k_ml_RX6_95 k_im_yX6_isLedger k_se_yX6_isLedger k_in_RX6 k_co_yX6_isLedger hd_X6_isLedger ⟨Nat.le_of_ble_eq_true rfl, Nat.le_of_ble_eq_true rfl⟩) rfl hl.1 rfl (Nat.le_of_ble_eq_true rfl) dX6_append_2 ⟨Nat.le_of_ble_eq_true rfl, Nat.le_of_ble_eq_true rfl⟩) (fun H locs hw => ?_)
  refine lv_if_eq (tgt := 23) hx hb dX6_append_5 (by decide) (fun hq3 => ?_) (fun hq3 => ?_)
  · have hm := (if_pos hq3).symm.trans hm
    refine lv_iconst (v := 0) hx hb dX6_append_23 (by decide) ?_
    exact J24 0 M hm H locs hw ls hl
  · have hm := (if_neg hq3).symm.trans hm
    refine lv_iload_n hx hb dX6_append_8 rfl (lv_at hl 2 rfl) ?_
    refine lv_iconst (v := 0) hx hb dX6_append_9 (by decide) ?_
    refine lv_sipush (v := 999) hx hb dX6_append_10 (by decide) ?_
    refine ki hw Fr_hi (rS hx hb hml hts hown hK hw (c_X6_in l x2 0 999) (mkS 3 hts k_ml_RX6_23 k_st_yX6_in k_in_RX6 k_co_yX6_in hd_X6_in ⟨Nat.le_of_ble_eq_true rfl, Nat.le_of_ble_eq_true rfl⟩) rfl hl.1 rfl (Nat.le_of_ble_eq_true rfl) dX6_append_13 ⟨Nat.le_of_ble_eq_true rfl, Nat.le_of_ble_eq_true rfl⟩) (fun H locs hw => ?_)
    refine lv_if_eq (tgt := 23) hx hb dX6_append_16 (by decide) (fun hq33 => ?_) (fun hq33 => ?_)
    · have hm := (if_pos hq33).symm.trans hm
      refine lv_iconst (v := 0) hx hb dX6_append_23 (by decide) ?_
      exact J24 0 M hm H locs hw ls hl
    · have hm := (if_neg hq33).symm.trans hm
      refine lv_iconst (v := 1) hx hb dX6_append_19 (by decide) ?_
      refine lv_goto (tgt := 24) hx hb dX6_append_20 (by decide) ?_
      exact J24 1 M hm H locs hw ls hl
set_option maxHeartbeats 4000000 in
set_option maxRecDepth 100000 in
theorem c_X6_replace (l : Launch) {D : va_G} {cy : Nat → ClassId} {A : Nat → Nat} {G : Nat → Bool} {M : Mem} {sz : Nat} {a0 : Nat} {x1 : Int32} {x2 : Int32} (h0 : TT G 5 a0)  {z : (Int32 × Mem)} (hm : m_X6_replace a0 x1 x2 M = some z) : Met l yX6_replace (wm yX6_replace cX6_replace 10 (some .int)) ({ frames := 4, cells := 0, slots := 0, locals := 94 } : Room) (va_Pc [.ref (A a0), .int x1, .int x2] (Pr D cy A G M sz)) (va_Qi (fun (r' : Int32) (u : Mem) => r' = z.1 ∧ u = z.2) (Po D cy A G (Fr A G sz)) (Fr A G sz))  0 0 (Fr A G sz) := by
  refine ofB (Qc := fun sz => va_Qi (fun (r' : Int32) (u : Mem) => r' = z.1 ∧ u = z.2) (Po D cy A G (Fr A G sz)) (Fr A G sz)) (by decide +kernel) (Nat.le_of_ble_eq_true rfl) ?_
  intro p e s m below meth c hx hb hr hts hown hlocks hml hmn hK hw ls hl
  have hl : lv_has ls 10 [(0, .ref (A a0)), (1, .int x1), (2, .int x2)] := hl
  have J283 : ∀  (n : Nat) (v5 : Int32) (v6 : Int32) (v9 : Int32) (M : Mem), m_X6_replace_L283 a0 x1 x2 n v5 v6 v9 M = some z → ∀ (H : Heap) (locs : List Loc), WD D cy (Fr A G s.heap.size) A s.heap G M H locs → ∀ ls : Array Slot, lv_has ls 10 [(0, .ref (A a0)), (1, .int x1), (5, .int v5), (6, .int v6), (9, .int v9)] → W p l e (headSpec (wm yX6_replace cX6_replace 10 (some .int)) ({ frames := 4, cells := 0, slots := 0, locals := 94 } : Room)).room s m ([.ref (A a0), .int x1, .int x2] : List Value).toArray below meth c H locs 0 0 (MQ below (va_Qi (fun (r' : Int32) (u : Mem) => r' = z.1 ∧ u = z.2) (Po D cy A G (Fr A G s.heap.size)) (Fr A G s.heap.size)) ([.ref (A a0), .int x1, .int x2] : List Value).toArray s 0 0 (Fr A G s.heap.size)) (F0 m 283 ls []) := by
    intro n
    induction n with
    | zero =>
      intro v5 v6 v9 M hm
      cases (show (none : Option (Int32 × Mem)) = some z from hm)
    | succ n ih =>
      intro v5 v6 v9 M hm H locs hw ls hl
      have hm := (m_X6_replace_L283_s a0 x1 x2 n v5 v6 v9 M).symm.trans hm
      refine lv_iload hx hb dX6_replace_283 (lv_at hl 4 rfl) ?_
      refine lv_aload_n hx hb dX6_replace_285 rfl (lv_at hl 0 rfl) ?_
      refine lv_iload_n hx hb dX6_replace_286 rfl (lv_at hl 1 rfl) ?_
      refine lv_iconst (v := 4) hx hb dX6_replace_287 (by decide) ?_
      obtain ⟨z22, e23, hm⟩ := bd_some hm
      refine ki hw Fr_hi (rV hx hb hml hts hown hK hw (c_X6_of l h0 e23) h0 (by decide) rfl (mkV 2 hts k_ml_RX6_31 k_im_yX6_of k_se_yX6_of k_in_RX6 k_co_yX6_of hd_X6_of ⟨Nat.le_of_ble_eq_true rfl, Nat.le_of_ble_eq_true rfl⟩) rfl hl.1 rfl (Nat.le_of_ble_eq_true rfl) dX6_replace_288 ⟨Nat.le_of_ble_eq_true rfl, Nat.le_of_ble_eq_true rfl⟩) (fun H locs hw => ?_)
      refine lv_icmp_ge (tgt := 323) hx hb dX6_replace_291 (by decide) (fun hq24 => ?_) (fun hq24 => ?_)
      · have hm := (if_pos hq24).symm.trans hm
        refine lv_iload hx hb dX6_replace_323 (lv_at hl 2 rfl) ?_
        cases hm
        exact eI hx hb hr hlocks hK hw dX6_replace_325
      · have hm := (if_neg hq24).symm.trans hm
        refine lv_aload_n hx hb dX6_replace_294 rfl (lv_at hl 0 rfl) ?_
        refine lv_iload_n hx hb dX6_replace_295 rfl (lv_at hl 1 rfl) ?_
        refine lv_iload hx hb dX6_replace_296 (lv_at hl 4 rfl) ?_
        refine lv_iload hx hb dX6_replace_298 (lv_at hl 2 rfl) ?_
        obtain ⟨z25, e26, hm⟩ := bd_some hm
        refine ki hw Fr_hi (rV hx hb hml hts hown hK hw (c_X6_isWriter l h0 e26) h0 (by decide) rfl (mkV 3 hts k_ml_RX6_81 k_im_yX6_isWriter k_se_yX6_isWriter k_in_RX6 k_co_yX6_isWriter hd_X6_isWriter ⟨Nat.le_of_ble_eq_true rfl, Nat.le_of_ble_eq_true rfl⟩) rfl hl.1 rfl (Nat.le_of_ble_eq_true rfl) dX6_replace_300 ⟨Nat.le_of_ble_eq_true rfl, Nat.le_of_ble_eq_true rfl⟩) (fun H locs hw => ?_)
        refine lv_if_eq (tgt := 317) hx hb dX6_replace_303 (by decide) (fun hq27 => ?_) (fun hq27 => ?_)
        · have hm := (if_pos hq27).symm.trans hm
          refine lv_iinc (v := (v9 + 1)) (lv' := [(9, .int (v9 + 1)), (0, .ref (A a0)), (1, .int x1), (5, .int v5), (6, .int v6)]) hx hb dX6_replace_317 hl (k := 4) rfl rfl (by decide) rfl (fun ls hl => ?_)
          refine lv_goto (tgt := 283) hx hb dX6_replace_320 (by decide) ?_
          exact ih v5 v6 (v9 + 1) M hm H locs hw ls (lv_sub hl [1, 2, 3, 4, 0] rfl)
        · have hm := (if_neg hq27).symm.trans hm
          refine lv_aload_n hx hb dX6_replace_306 rfl (lv_at hl 0 rfl) ?_
          refine lv_iload hx hb dX6_replace_307 (lv_at hl 2 rfl) ?_
          refine lv_iload_n hx hb dX6_replace_309 rfl (lv_at hl 1 rfl) ?_
          refine lv_iload hx hb dX6_replace_310 (lv_at hl 4 rfl) ?_
          refine lv_iload hx hb dX6_replace_312 (lv_at hl 3 rfl) ?_
          obtain ⟨z28, e29, hm⟩ := bd_some hm
          refine kv hw Fr_hi (rV hx hb hml hts hown hK hw (c_X6_send l h0 e29) h0 (by decide) rfl (mkV 4 hts k_ml_RX6_105 k_im_yX6_send k_se_yX6_send k_in_RX6 k_co_yX6_send hd_X6_send ⟨Nat.le_of_ble_eq_true rfl, Nat.le_of_ble_eq_true rfl⟩) rfl hl.1 rfl (Nat.le_of_ble_eq_true rfl) dX6_replace_314 ⟨Nat.le_of_ble_eq_true rfl, Nat.le_of_ble_eq_true rfl⟩) (fun H locs hw => ?_)
          refine lv_iinc (v := (v9 + 1)) (lv' := [(9, .int (v9 + 1)), (0, .ref (A a0)), (1, .int x1), (5, .int v5), (6, .int v6)]) hx hb dX6_replace_317 hl (k := 4) rfl rfl (by decide) rfl (fun ls hl => ?_)
          refine lv_goto (tgt := 283) hx hb dX6_replace_320 (by decide) ?_
          exact ih v5 v6 (v9 + 1) z28 hm H locs hw ls (lv_sub hl [1, 2, 3, 4, 0] rfl)
  have J235 : ∀  (n : Nat) (v5 : Int32) (v6 : Int32) (v7 : Int32) (v8 : Int32) (v9 : Int32) (M : Mem), m_X6_replace_L235 a0 x1 x2 n v5 v6 v7 v8 v9 M = some z → ∀ (H : Heap) (locs : List Loc), WD D cy (Fr A G s.heap.size) A s.heap G M H locs → ∀ ls : Array Slot, lv_has ls 10 [(0, .ref (A a0)), (1, .int x1), (5, .int v5), (6, .int v6), (7, .int v7), (8, .int v8), (9, .int v9)] → W p l e (headSpec (wm yX6_replace cX6_replace 10 (some .int)) ({ frames := 4, cells := 0, slots := 0, locals := 94 } : Room)).room s m ([.ref (A a0), .int x1, .int x2] : List Value).toArray below meth c H locs 0 0 (MQ below (va_Qi (fun (r' : Int32) (u : Mem) => r' = z.1 ∧ u = z.2) (Po D cy A G (Fr A G s.heap.size)) (Fr A G s.heap.size)) ([.ref (A a0), .int x1, .int x2] : List Value).toArray s 0 0 (Fr A G s.heap.size)) (F0 m 235 ls []) := by
    intro n
    induction n with
    | zero =>
      intro v5 v6 v7 v8 v9 M hm
      cases (show (none : Option (Int32 × Mem)) = some z from hm)
    | succ n ih =>
      intro v5 v6 v7 v8 v9 M hm H locs hw ls hl
      have hm := (m_X6_replace_L235_s a0 x1 x2 n v5 v6 v7 v8 v9 M).symm.trans hm
      refine lv_iload hx hb dX6_replace_235 (lv_at hl 6 rfl) ?_
      refine lv_aload_n hx hb dX6_replace_237 rfl (lv_at hl 0 rfl) ?_
      refine lv_iload_n hx hb dX6_replace_238 rfl (lv_at hl 1 rfl) ?_
      refine lv_iconst (v := 4) hx hb dX6_replace_239 (by decide) ?_
      obtain ⟨z19, e20, hm⟩ := bd_some hm
      refine ki hw Fr_hi (rV hx hb hml hts hown hK hw (c_X6_of l h0 e20) h0 (by decide) rfl (mkV 2 hts k_ml_RX6_31 k_im_yX6_of k_se_yX6_of k_in_RX6 k_co_yX6_of hd_X6_of ⟨Nat.le_of_ble_eq_true rfl, Nat.le_of_ble_eq_true rfl⟩) rfl hl.1 rfl (Nat.le_of_ble_eq_true rfl) dX6_replace_240 ⟨Nat.le_of_ble_eq_true rfl, Nat.le_of_ble_eq_true rfl⟩) (fun H locs hw => ?_)
      refine lv_icmp_ge (tgt := 279) hx hb dX6_replace_243 (by decide) (fun hq21 => ?_) (fun hq21 => ?_)
      · have hm := (if_pos hq21).symm.trans hm
        refine lv_iload hx hb dX6_replace_279 (lv_at hl 4 rfl) ?_
        refine lv_istore (lv' := [(9, .int v7), (0, .ref (A a0)), (1, .int x1), (5, .int v5), (6, .int v6), (7, .int v7), (8, .int v8)]) hx hb dX6_replace_281 hl (by decide) rfl (fun ls hl => ?_)
        exact J283 fuel v5 v6 v7 M hm H locs hw ls (lv_sub hl [1, 2, 3, 4, 0] rfl)
      · have hm := (if_neg hq21).symm.trans hm
        refine lv_aload_n hx hb dX6_replace_246 rfl (lv_at hl 0 rfl) ?_
        refine lv_iload_n hx hb dX6_replace_247 rfl (lv_at hl 1 rfl) ?_
        refine lv_bipush (v := 47) hx hb dX6_replace_248 (by decide) ?_
        refine lv_iload hx hb dX6_replace_250 (lv_at hl 6 rfl) ?_
        refine lv_iadd hx hb dX6_replace_252 ?_
        refine lv_aload_n hx hb dX6_replace_253 rfl (lv_at hl 0 rfl) ?_
        refine lv_iload_n hx hb dX6_replace_254 rfl (lv_at hl 1 rfl) ?_
        refine lv_bipush (v := 47) hx hb dX6_replace_255 (by decide) ?_
        refine lv_iload hx hb dX6_replace_257 (lv_at hl 6 rfl) ?_
        refine lv_iadd hx hb dX6_replace_259 ?_
        obtain ⟨z30, e31, hm⟩ := bd_some hm
        refine ki hw Fr_hi (rV hx hb hml hts hown hK hw (c_X6_of l h0 e31) h0 (by decide) rfl (mkV 2 hts k_ml_RX6_31 k_im_yX6_of k_se_yX6_of k_in_RX6 k_co_yX6_of hd_X6_of ⟨Nat.le_of_ble_eq_true rfl, Nat.le_of_ble_eq_true rfl⟩) rfl hl.1 rfl (Nat.le_of_ble_eq_true rfl) dX6_replace_260 ⟨Nat.le_of_ble_eq_true rfl, Nat.le_of_ble_eq_true rfl⟩) (fun H locs hw => ?_)
        refine lv_iconst (v := 1) hx hb dX6_replace_263 (by decide) ?_
        refine lv_iload hx hb dX6_replace_264 (lv_at hl 5 rfl) ?_
        refine lv_ishl hx hb dX6_replace_266 ?_
        refine lv_iconst (v := (-1)) hx hb dX6_replace_267 (by decide) ?_
        refine lv_ixor hx hb dX6_replace_268 ?_
        refine lv_iand hx hb dX6_replace_269 ?_
        obtain ⟨z32, e33, hm⟩ := bd_some hm
        refine kv hw Fr_hi (rV hx hb hml hts hown hK hw (c_X6_set l h0 e33) h0 (by decide) rfl (mkV 3 hts k_ml_RX6_84 k_im_yX6_set k_se_yX6_set k_in_RX6 k_co_yX6_set hd_X6_set ⟨Nat.le_of_ble_eq_true rfl, Nat.le_of_ble_eq_true rfl⟩) rfl hl.1 rfl (Nat.le_of_ble_eq_true rfl) dX6_replace_270 ⟨Nat.le_of_ble_eq_true rfl, Nat.le_of_ble_eq_true rfl⟩) (fun H locs hw => ?_)
        refine lv_iinc (v := (v9 + 1)) (lv' := [(9, .int (v9 + 1)), (0, .ref (A a0)), (1, .int x1), (5, .int v5), (6, .int v6), (7, .int v7), (8, .int v8)]) hx hb dX6_replace_273 hl (k := 6) rfl rfl (by decide) rfl (fun ls hl => ?_)
        refine lv_goto (tgt := 235) hx hb dX6_replace_276 (by decide) ?_
        exact ih v5 v6 v7 v8 (v9 + 1) z32 hm H locs hw ls (lv_sub hl [1, 2, 3, 4, 5, 6, 0] rfl)
  have J214 : ∀  (v4 : Int32) (v5 : Int32) (v6 : Int32) (v7 : Int32) (v8 : Int32) (M : Mem), m_X6_replace_b214 a0 x1 x2 v4 v5 v6 v7 v8 M = some z → ∀ (H : Heap) (locs : List Loc), WD D cy (Fr A G s.heap.size) A s.heap G M H locs → ∀ ls : Array Slot, lv_has ls 10 [(0, .ref (A a0)), (1, .int x1), (2, .int x2), (4, .int v4), (5, .int v5), (6, .int v6), (7, .int v7), (8, .int v8)] → W p l e (headSpec (wm yX6_replace cX6_replace 10 (some .int)) ({ frames := 4, cells := 0, slots := 0, locals := 94 } : Room)).room s m ([.ref (A a0), .int x1, .int x2] : List Value).toArray below meth c H locs 0 0 (MQ below (va_Qi (fun (r' : Int32) (u : Mem) => r' = z.1 ∧ u = z.2) (Po D cy A G (Fr A G s.heap.size)) (Fr A G s.heap.size)) ([.ref (A a0), .int x1, .int x2] : List Value).toArray s 0 0 (Fr A G s.heap.size)) (F0 m 214 ls []) := by
    intro v4 v5 v6 v7 v8 M hm H locs hw ls hl
    unfold m_X6_replace_b214 at hm
    refine lv_aload_n hx hb dX6_replace_214 rfl (lv_at hl 0 rfl) ?_
    refine lv_iload_n hx hb dX6_replace_215 rfl (lv_at hl 1 rfl) ?_
    refine lv_sipush (v := 128) hx hb dX6_replace_216 (by decide) ?_
    refine lv_iconst (v := 5) hx hb dX6_replace_219 (by decide) ?_
    refine lv_iload hx hb dX6_replace_220 (lv_at hl 3 rfl) ?_
    refine lv_imul hx hb dX6_replace_222 ?_
    refine lv_iadd hx hb dX6_replace_223 ?_
    refine lv_iload_n hx hb dX6_replace_224 rfl (lv_at hl 2 rfl) ?_
    refine lv_iadd hx hb dX6_replace_225 ?_
    refine lv_iload hx hb dX6_replace_226 (lv_at hl 4 rfl) ?_
    obtain ⟨z17, e18, hm⟩ := bd_some hm
    refine kv hw Fr_hi (rV hx hb hml hts hown hK hw (c_X6_set l h0 e18) h0 (by decide) rfl (mkV 3 hts k_ml_RX6_84 k_im_yX6_set k_se_yX6_set k_in_RX6 k_co_yX6_set hd_X6_set ⟨Nat.le_of_ble_eq_true rfl, Nat.le_of_ble_eq_true rfl⟩) rfl hl.1 rfl (Nat.le_of_ble_eq_true rfl) dX6_replace_228 ⟨Nat.le_of_ble_eq_true rfl, Nat.le_of_ble_eq_true rfl⟩) (fun H locs hw => ?_)
    refine lv_iload hx hb dX6_replace_231 (lv_at hl 6 rfl) ?_
    refine lv_istore (lv' := [(9, .int v7), (0, .ref (A a0)), (1, .int x1), (2, .int x2), (4, .int v4), (5, .int v5), (6, .int v6), (7, .int v7), (8, .int v8)]) hx hb dX6_replace_233 hl (by decide) rfl (fun ls hl => ?_)
    exact J235 fuel v5 v6 v7 v8 v7 z17 hm H locs hw ls (lv_sub hl [1, 2, 5, 6, 7, 8, 0] rfl)
  have J149 : ∀  (n : Nat) (v4 : Int32) (v5 : Int32) (v6 : Int32) (v7 : Int32) (v8 : Int32) (v9 : Int32) (M : Mem), m_X6_replace_L149 a0 x1 x2 n v4 v5 v6 v7 v8 v9 M = some z → ∀ (H : Heap) (locs : List Loc), WD D cy (Fr A G s.heap.size) A s.heap G M H locs → ∀ ls : Array Slot, lv_has ls 10 [(0, .ref (A a0)), (1, .int x1), (2, .int x2), (4, .int v4), (5, .int v5), (6, .int v6), (7, .int v7), (8, .int v8), (9, .int v9)] → W p l e (headSpec (wm yX6_replace cX6_replace 10 (some .int)) ({ frames := 4, cells := 0, slots := 0, locals := 94 } : Room)).room s m ([.ref (A a0), .int x1, .int x2] : List Value).toArray below meth c H locs 0 0 (MQ below (va_Qi (fun (r' : Int32) (u : Mem) => r' = z.1 ∧ u = z.2) (Po D cy A G (Fr A G s.heap.size)) (Fr A G s.heap.size)) ([.ref (A a0), .int x1, .int x2] : List Value).toArray s 0 0 (Fr A G s.heap.size)) (F0 m 149 ls []) := by
    intro n
    induction n with
    | zero =>
      intro v4 v5 v6 v7 v8 v9 M hm
      cases (show (none : Option (Int32 × Mem)) = some z from hm)
    | succ n ih =>
      intro v4 v5 v6 v7 v8 v9 M hm H locs hw ls hl
      have hm := (m_X6_replace_L149_s a0 x1 x2 n v4 v5 v6 v7 v8 v9 M).symm.trans hm
      refine lv_iload hx hb dX6_replace_149 (lv_at hl 8 rfl) ?_
      refine lv_iconst (v := 5) hx hb dX6_replace_151 (by decide) ?_
      refine lv_icmp_ge (tgt := 188) hx hb dX6_replace_152 (by decide) (fun hq34 => ?_) (fun hq34 => ?_)
      · have hm := (if_pos hq34).symm.trans hm
        refine lv_iinc (v := (v4 + 1)) (lv' := [(4, .int (v4 + 1)), (0, .ref (A a0)), (1, .int x1), (2, .int x2), (5, .int v5), (6, .int v6), (7, .int v7), (8, .int v8), (9, .int v9)]) hx hb dX6_replace_188 hl (k := 3) rfl rfl (by decide) rfl (fun ls hl => ?_)
        refine lv_aload_n hx hb dX6_replace_191 rfl (lv_at hl 1 rfl) ?_
        refine lv_iload_n hx hb dX6_replace_192 rfl (lv_at hl 2 rfl) ?_
        refine lv_bipush (v := 87) hx hb dX6_replace_193 (by decide) ?_
        refine lv_iload hx hb dX6_replace_195 (lv_at hl 0 rfl) ?_
        refine lv_iadd hx hb dX6_replace_197 ?_
        refine lv_iload hx hb dX6_replace_198 (lv_at hl 6 rfl) ?_
        obtain ⟨z35, e36, hm⟩ := bd_some hm
        refine kv hw Fr_hi (rV hx hb hml hts hown hK hw (c_X6_set l h0 e36) h0 (by decide) rfl (mkV 3 hts k_ml_RX6_84 k_im_yX6_set k_se_yX6_set k_in_RX6 k_co_yX6_set hd_X6_set ⟨Nat.le_of_ble_eq_true rfl, Nat.le_of_ble_eq_true rfl⟩) rfl hl.1 rfl (Nat.le_of_ble_eq_true rfl) dX6_replace_200 ⟨Nat.le_of_ble_eq_true rfl, Nat.le_of_ble_eq_true rfl⟩) (fun H locs hw => ?_)
        refine lv_aload_n hx hb dX6_replace_203 rfl (lv_at hl 1 rfl) ?_
        refine lv_iload_n hx hb dX6_replace_204 rfl (lv_at hl 2 rfl) ?_
        refine lv_bipush (v := 6) hx hb dX6_replace_205 (by decide) ?_
        refine lv_iload hx hb dX6_replace_207 (lv_at hl 0 rfl) ?_
        refine lv_iconst (v := 1) hx hb dX6_replace_209 (by decide) ?_
        refine lv_iadd hx hb dX6_replace_210 ?_
        obtain ⟨z37, e38, hm⟩ := bd_some hm
        refine kv hw Fr_hi (rV hx hb hml hts hown hK hw (c_X6_set l h0 e38) h0 (by decide) rfl (mkV 3 hts k_ml_RX6_84 k_im_yX6_set k_se_yX6_set k_in_RX6 k_co_yX6_set hd_X6_set ⟨Nat.le_of_ble_eq_true rfl, Nat.le_of_ble_eq_true rfl⟩) rfl hl.1 rfl (Nat.le_of_ble_eq_true rfl) dX6_replace_211 ⟨Nat.le_of_ble_eq_true rfl, Nat.le_of_ble_eq_true rfl⟩) (fun H locs hw => ?_)
        exact J214 (v4 + 1) v5 v6 v7 v8 z37 hm H locs hw ls (lv_sub hl [1, 2, 3, 0, 4, 5, 6, 7] rfl)
      · have hm := (if_neg hq34).symm.trans hm
        refine lv_aload_n hx hb dX6_replace_155 rfl (lv_at hl 0 rfl) ?_
        refine lv_iload_n hx hb dX6_replace_156 rfl (lv_at hl 1 rfl) ?_
        refine lv_sipush (v := 128) hx hb dX6_replace_157 (by decide) ?_
        refine lv_iconst (v := 5) hx hb dX6_replace_160 (by decide) ?_
        refine lv_iload hx hb dX6_replace_161 (lv_at hl 3 rfl) ?_
        refine lv_iconst (v := 1) hx hb dX6_replace_163 (by decide) ?_
        refine lv_iadd hx hb dX6_replace_164 ?_
        refine lv_imul hx hb dX6_replace_165 ?_
        refine lv_iadd hx hb dX6_replace_166 ?_
        refine lv_iload hx hb dX6_replace_167 (lv_at hl 8 rfl) ?_
        refine lv_iadd hx hb dX6_replace_169 ?_
        refine lv_aload_n hx hb dX6_replace_170 rfl (lv_at hl 0 rfl) ?_
        refine lv_iload_n hx hb dX6_replace_171 rfl (lv_at hl 1 rfl) ?_
        refine lv_iload hx hb dX6_replace_172 (lv_at hl 3 rfl) ?_
        refine lv_iload hx hb dX6_replace_174 (lv_at hl 8 rfl) ?_
        obtain ⟨z39, e40, hm⟩ := bd_some hm
        refine ki hw Fr_hi (rV hx hb hml hts hown hK hw (c_X6_memberOf l h0 e40) h0 (by decide) rfl (mkV 3 hts k_ml_RX6_35 k_im_yX6_memberOf k_se_yX6_memberOf k_in_RX6 k_co_yX6_memberOf hd_X6_memberOf ⟨Nat.le_of_ble_eq_true rfl, Nat.le_of_ble_eq_true rfl⟩) rfl hl.1 rfl (Nat.le_of_ble_eq_true rfl) dX6_replace_176 ⟨Nat.le_of_ble_eq_true rfl, Nat.le_of_ble_eq_true rfl⟩) (fun H locs hw => ?_)
        obtain ⟨z41, e42, hm⟩ := bd_some hm
        refine kv hw Fr_hi (rV hx hb hml hts hown hK hw (c_X6_set l h0 e42) h0 (by decide) rfl (mkV 3 hts k_ml_RX6_84 k_im_yX6_set k_se_yX6_set k_in_RX6 k_co_yX6_set hd_X6_set ⟨Nat.le_of_ble_eq_true rfl, Nat.le_of_ble_eq_true rfl⟩) rfl hl.1 rfl (Nat.le_of_ble_eq_true rfl) dX6_replace_179 ⟨Nat.le_of_ble_eq_true rfl, Nat.le_of_ble_eq_true rfl⟩) (fun H locs hw => ?_)
        refine lv_iinc (v := (v9 + 1)) (lv' := [(9, .int (v9 + 1)), (0, .ref (A a0)), (1, .int x1), (2, .int x2), (4, .int v4), (5, .int v5), (6, .int v6), (7, .int v7), (8, .int v8)]) hx hb dX6_replace_182 hl (k := 8) rfl rfl (by decide) rfl (fun ls hl => ?_)
        refine lv_goto (tgt := 149) hx hb dX6_replace_185 (by decide) ?_
        exact ih v4 v5 v6 v7 v8 (v9 + 1) z41 hm H locs hw ls (lv_sub hl [1, 2, 3, 4, 5, 6, 7, 8, 0] rfl)
  have J96 : ∀  (v4 : Int32) (v5 : Int32) (u0 : Nat) (u1 : Int32) (u2 : Int32) (M : Mem) (hu0 : TT G 5 u0), m_X6_replace_b96 a0 x1 x2 v4 v5 u0 u1 u2 M = some z → ∀ (H : Heap) (locs : List Loc), WD D cy (Fr A G s.heap.size) A s.heap G M H locs → ∀ ls : Array Slot, lv_has ls 10 [(0, .ref (A a0)), (1, .int x1), (2, .int x2), (4, .int v4), (5, .int v5)] → W p l e (headSpec (wm yX6_replace cX6_replace 10 (some .int)) ({ frames := 4, cells := 0, slots := 0, locals := 94 } : Room)).room s m ([.ref (A a0), .int x1, .int x2] : List Value).toArray below meth c H locs 0 0 (MQ below (va_Qi (fun (r' : Int32) (u : Mem) => r' = z.1 ∧ u = z.2) (Po D cy A G (Fr A G s.heap.size)) (Fr A G s.heap.size)) ([.ref (A a0), .int x1, .int x2] : List Value).toArray s 0 0 (Fr A G s.heap.size)) (F0 m 96 ls [.int u2, .int u1, .ref (A u0)]) := by
    intro v4 v5 u0 u1 u2 M hu0 hm H locs hw ls hl
    unfold m_X6_replace_b96 at hm
    refine ki hw Fr_hi (rV hx hb hml hts hown hK hw (c_X6_isFine l hu0 u1 u2) hu0 (by decide) rfl (mkV 2 hts k_ml_RX6_69 k_im_yX6_isFine k_se_yX6_isFine k_in_RX6 k_co_yX6_isFine hd_X6_isFine ⟨Nat.le_of_ble_eq_true rfl, Nat.le_of_ble_eq_true rfl⟩) rfl hl.1 rfl (Nat.le_of_ble_eq_true rfl) dX6_replace_96 ⟨Nat.le_of_ble_eq_true rfl, Nat.le_of_ble_eq_true rfl⟩) (fun H locs hw => ?_)
    refine lv_if_ne (tgt := 104) hx hb dX6_replace_99 (by decide) (fun hq7 => ?_) (fun hq7 => ?_)
    · have hm := (if_neg hq7).symm.trans hm
      refine lv_aload_n hx hb dX6_replace_104 rfl (lv_at hl 0 rfl) ?_
      obtain ⟨z8, e9, hm⟩ := bd_some hm
      refine kv hw Fr_hi (rV hx hb hml hts hown hK hw (c_X6_note l h0 e9) h0 (by decide) rfl (mkV 0 hts k_ml_RX6_63 k_im_yX6_note k_se_yX6_note k_in_RX6 k_co_yX6_note hd_X6_note ⟨Nat.le_of_ble_eq_true rfl, Nat.le_of_ble_eq_true rfl⟩) rfl hl.1 rfl (Nat.le_of_ble_eq_true rfl) dX6_replace_105 ⟨Nat.le_of_ble_eq_true rfl, Nat.le_of_ble_eq_true rfl⟩) (fun H locs hw => ?_)
      refine lv_aload_n hx hb dX6_replace_108 rfl (lv_at hl 0 rfl) ?_
      refine lv_iload_n hx hb dX6_replace_109 rfl (lv_at hl 1 rfl) ?_
      obtain ⟨z10, e11, hm⟩ := bd_some hm
      refine ki hw Fr_hi (rV hx hb hml hts hown hK hw (c_X6_confirmed l h0 e11) h0 (by decide) rfl (mkV 1 hts k_ml_RX6_60 k_im_yX6_confirmed k_se_yX6_confirmed k_in_RX6 k_co_yX6_confirmed hd_X6_confirmed ⟨Nat.le_of_ble_eq_true rfl, Nat.le_of_ble_eq_true rfl⟩) rfl hl.1 rfl (Nat.le_of_ble_eq_true rfl) dX6_replace_110 ⟨Nat.le_of_ble_eq_true rfl, Nat.le_of_ble_eq_true rfl⟩) (fun H locs hw => ?_)
      refine lv_istore (lv' := [(6, .int z10), (0, .ref (A a0)), (1, .int x1), (2, .int x2), (4, .int v4), (5, .int v5)]) hx hb dX6_replace_113 hl (by decide) rfl (fun ls hl => ?_)
      refine lv_iload hx hb dX6_replace_115 (lv_at hl 0 rfl) ?_
      refine lv_iconst (v := 1) hx hb dX6_replace_117 (by decide) ?_
      refine lv_iadd hx hb dX6_replace_118 ?_
      refine lv_istore (lv' := [(7, .int (z10 + 1)), (6, .int z10), (0, .ref (A a0)), (1, .int x1), (2, .int x2), (4, .int v4), (5, .int v5)]) hx hb dX6_replace_119 hl (by decide) rfl (fun ls hl => ?_)
      refine lv_aload_n hx hb dX6_replace_121 rfl (lv_at hl 2 rfl) ?_
      refine lv_iload_n hx hb dX6_replace_122 rfl (lv_at hl 3 rfl) ?_
      refine lv_iload hx hb dX6_replace_123 (lv_at hl 5 rfl) ?_
      refine lv_iload_n hx hb dX6_replace_125 rfl (lv_at hl 4 rfl) ?_
      obtain ⟨z12, e13, hm⟩ := bd_some hm
      refine ki hw Fr_hi (rV hx hb hml hts hown hK hw (c_X6_memberOf l h0 e13) h0 (by decide) rfl (mkV 3 hts k_ml_RX6_35 k_im_yX6_memberOf k_se_yX6_memberOf k_in_RX6 k_co_yX6_memberOf hd_X6_memberOf ⟨Nat.le_of_ble_eq_true rfl, Nat.le_of_ble_eq_true rfl⟩) rfl hl.1 rfl (Nat.le_of_ble_eq_true rfl) dX6_replace_126 ⟨Nat.le_of_ble_eq_true rfl, Nat.le_of_ble_eq_true rfl⟩) (fun H locs hw => ?_)
      refine lv_istore (lv' := [(8, .int z12), (7, .int (z10 + 1)), (6, .int z10), (0, .ref (A a0)), (1, .int x1), (2, .int x2), (4, .int v4), (5, .int v5)]) hx hb dX6_replace_129 hl (by decide) rfl (fun ls hl => ?_)
      refine lv_aload_n hx hb dX6_replace_131 rfl (lv_at hl 3 rfl) ?_
      refine lv_iload_n hx hb dX6_replace_132 rfl (lv_at hl 4 rfl) ?_
      refine lv_bipush (v := 87) hx hb dX6_replace_133 (by decide) ?_
      refine lv_iload hx hb dX6_replace_135 (lv_at hl 6 rfl) ?_
      refine lv_iadd hx hb dX6_replace_137 ?_
      obtain ⟨z14, e15, hm⟩ := bd_some hm
      refine ki hw Fr_hi (rV hx hb hml hts hown hK hw (c_X6_of l h0 e15) h0 (by decide) rfl (mkV 2 hts k_ml_RX6_31 k_im_yX6_of k_se_yX6_of k_in_RX6 k_co_yX6_of hd_X6_of ⟨Nat.le_of_ble_eq_true rfl, Nat.le_of_ble_eq_true rfl⟩) rfl hl.1 rfl (Nat.le_of_ble_eq_true rfl) dX6_replace_138 ⟨Nat.le_of_ble_eq_true rfl, Nat.le_of_ble_eq_true rfl⟩) (fun H locs hw => ?_)
      refine lv_iload hx hb dX6_replace_141 (lv_at hl 1 rfl) ?_
      refine lv_icmp_eq (tgt := 214) hx hb dX6_replace_143 (by decide) (fun hq16 => ?_) (fun hq16 => ?_)
      · have hm := (if_pos hq16).symm.trans hm
        exact J214 v4 v5 z10 (z10 + 1) z12 z8 hm H locs hw ls (lv_sub hl [3, 4, 5, 6, 7, 2, 1, 0] rfl)
      · have hm := (if_neg hq16).symm.trans hm
        refine lv_iconst (v := 0) hx hb dX6_replace_146 (by decide) ?_
        refine lv_istore (lv' := [(9, .int 0), (8, .int z12), (7, .int (z10 + 1)), (6, .int z10), (0, .ref (A a0)), (1, .int x1), (2, .int x2), (4, .int v4), (5, .int v5)]) hx hb dX6_replace_147 hl (by decide) rfl (fun ls hl => ?_)
        exact J149 fuel v4 v5 z10 (z10 + 1) z12 0 z8 hm H locs hw ls (lv_sub hl [4, 5, 6, 7, 8, 3, 2, 1, 0] rfl)
    · have hm := (if_pos hq7).symm.trans hm
      refine lv_iconst (v := 0) hx hb dX6_replace_102 (by decide) ?_
      cases hm
      exact eI hx hb hr hlocks hK hw dX6_replace_103
  have J68 : ∀  (v3 : Int32) (v4 : Int32) (u0 : Int32) (M : Mem), m_X6_replace_b68 a0 x1 x2 v3 v4 u0 M = some z → ∀ (H : Heap) (locs : List Loc), WD D cy (Fr A G s.heap.size) A s.heap G M H locs → ∀ ls : Array Slot, lv_has ls 10 [(0, .ref (A a0)), (1, .int x1), (2, .int x2), (3, .int v3), (4, .int v4)] → W p l e (headSpec (wm yX6_replace cX6_replace 10 (some .int)) ({ frames := 4, cells := 0, slots := 0, locals := 94 } : Room)).room s m ([.ref (A a0), .int x1, .int x2] : List Value).toArray below meth c H locs 0 0 (MQ below (va_Qi (fun (r' : Int32) (u : Mem) => r' = z.1 ∧ u = z.2) (Po D cy A G (Fr A G s.heap.size)) (Fr A G s.heap.size)) ([.ref (A a0), .int x1, .int x2] : List Value).toArray s 0 0 (Fr A G s.heap.size)) (F0 m 68 ls [.int u0]) := by
    intro v3 v4 u0 M hm H locs hw ls hl
    unfold m_X6_replace_b68 at hm
    refine lv_istore (lv' := [(5, .int u0), (0, .ref (A a0)), (1, .int x1), (2, .int x2), (3, .int v3), (4, .int v4)]) hx hb dX6_replace_68 hl (by decide) rfl (fun ls hl => ?_)
    refine lv_aload_n hx hb dX6_replace_70 rfl (lv_at hl 1 rfl) ?_
    refine lv_iload_n hx hb dX6_replace_71 rfl (lv_at hl 4 rfl) ?_
    refine lv_iload_n hx hb dX6_replace_72 rfl (lv_at hl 4 rfl) ?_
    refine lv_if_eq (tgt := 95) hx hb dX6_replace_73 (by decide) (fun hq6 => ?_) (fun hq6 => ?_)
    · have hm := (if_pos hq6).symm.trans hm
      refine lv_iconst (v := 0) hx hb dX6_replace_95 (by decide) ?_
      exact J96 v4 u0 a0 v3 0 M h0 hm H locs hw ls (lv_sub hl [1, 2, 3, 5, 0] rfl)
    · have hm := (if_neg hq6).symm.trans hm
      refine lv_aload_n hx hb dX6_replace_76 rfl (lv_at hl 1 rfl) ?_
      refine lv_iload_n hx hb dX6_replace_77 rfl (lv_at hl 2 rfl) ?_
      refine lv_iconst (v := 3) hx hb dX6_replace_78 (by decide) ?_
      obtain ⟨z43, e44, hm⟩ := bd_some hm
      refine ki hw Fr_hi (rV hx hb hml hts hown hK hw (c_X6_of l h0 e44) h0 (by decide) rfl (mkV 2 hts k_ml_RX6_31 k_im_yX6_of k_se_yX6_of k_in_RX6 k_co_yX6_of hd_X6_of ⟨Nat.le_of_ble_eq_true rfl, Nat.le_of_ble_eq_true rfl⟩) rfl hl.1 rfl (Nat.le_of_ble_eq_true rfl) dX6_replace_79 ⟨Nat.le_of_ble_eq_true rfl, Nat.le_of_ble_eq_true rfl⟩) (fun H locs hw => ?_)
      refine lv_if_ne (tgt := 95) hx hb dX6_replace_82 (by decide) (fun hq45 => ?_) (fun hq45 => ?_)
      · have hm := (if_neg hq45).symm.trans hm
        refine lv_iconst (v := 0) hx hb dX6_replace_95 (by decide) ?_
        exact J96 v4 u0 a0 v3 0 M h0 hm H locs hw ls (lv_sub hl [1, 2, 3, 5, 0] rfl)
      · have hm := (if_pos hq45).symm.trans hm
        refine lv_iload hx hb dX6_replace_85 (lv_at hl 0 rfl) ?_
        refine lv_iconst (v := (-1)) hx hb dX6_replace_87 (by decide) ?_
        refine lv_icmp_eq (tgt := 95) hx hb dX6_replace_88 (by decide) (fun hq46 => ?_) (fun hq46 => ?_)
        · have hm := (if_pos hq46).symm.trans hm
          refine lv_iconst (v := 0) hx hb dX6_replace_95 (by decide) ?_
          exact J96 v4 u0 a0 v3 0 M h0 hm H locs hw ls (lv_sub hl [1, 2, 3, 5, 0] rfl)
        · have hm := (if_neg hq46).symm.trans hm
          refine lv_iconst (v := 1) hx hb dX6_replace_91 (by decide) ?_
          refine lv_goto (tgt := 96) hx hb dX6_replace_92 (by decide) ?_
          exact J96 v4 u0 a0 v3 1 M h0 hm H locs hw ls (lv_sub hl [1, 2, 3, 5, 0] rfl)
  have J47 : ∀  (v3 : Int32) (u0 : Int32) (M : Mem), m_X6_replace_b47 a0 x1 x2 v3 u0 M = some z → ∀ (H : Heap) (locs : List Loc), WD D cy (Fr A G s.heap.size) A s.heap G M H locs → ∀ ls : Array Slot, lv_has ls 10 [(0, .ref (A a0)), (1, .int x1), (2, .int x2), (3, .int v3)] → W p l e (headSpec (wm yX6_replace cX6_replace 10 (some .int)) ({ frames := 4, cells := 0, slots := 0, locals := 94 } : Room)).room s m ([.ref (A a0), .int x1, .int x2] : List Value).toArray below meth c H locs 0 0 (MQ below (va_Qi (fun (r' : Int32) (u : Mem) => r' = z.1 ∧ u = z.2) (Po D cy A G (Fr A G s.heap.size)) (Fr A G s.heap.size)) ([.ref (A a0), .int x1, .int x2] : List Value).toArray s 0 0 (Fr A G s.heap.size)) (F0 m 47 ls [.int u0]) := by
    intro v3 u0 M hm H locs hw ls hl
    unfold m_X6_replace_b47 at hm
    refine lv_istore (lv' := [(4, .int u0), (0, .ref (A a0)), (1, .int x1), (2, .int x2), (3, .int v3)]) hx hb dX6_replace_47 hl (by decide) rfl (fun ls hl => ?_)
    refine lv_iload_n hx hb dX6_replace_49 rfl (lv_at hl 4 rfl) ?_
    refine lv_if_eq (tgt := 67) hx hb dX6_replace_50 (by decide) (fun hq5 => ?_) (fun hq5 => ?_)
    · have hm := (if_pos hq5).symm.trans hm
      refine lv_iconst (v := (-1)) hx hb dX6_replace_67 (by decide) ?_
      exact J68 v3 u0 (-1) M hm H locs hw ls (lv_sub hl [1, 2, 3, 4, 0] rfl)
    · have hm := (if_neg hq5).symm.trans hm
      refine lv_aload_n hx hb dX6_replace_53 rfl (lv_at hl 1 rfl) ?_
      refine lv_aload_n hx hb dX6_replace_54 rfl (lv_at hl 1 rfl) ?_
      refine lv_iload_n hx hb dX6_replace_55 rfl (lv_at hl 2 rfl) ?_
      refine lv_iload hx hb dX6_replace_56 (lv_at hl 0 rfl) ?_
      obtain ⟨z47, e48, hm⟩ := bd_some hm
      refine ki hw Fr_hi (rV hx hb hml hts hown hK hw (c_X6_ensemble l h0 e48) h0 (by decide) rfl (mkV 2 hts k_ml_RX6_109 k_im_yX6_ensemble k_se_yX6_ensemble k_in_RX6 k_co_yX6_ensemble hd_X6_ensemble ⟨Nat.le_of_ble_eq_true rfl, Nat.le_of_ble_eq_true rfl⟩) rfl hl.1 rfl (Nat.le_of_ble_eq_true rfl) dX6_replace_58 ⟨Nat.le_of_ble_eq_true rfl, Nat.le_of_ble_eq_true rfl⟩) (fun H locs hw => ?_)
      obtain ⟨z49, e50, hm⟩ := bd_some hm
      refine ki hw Fr_hi (rV hx hb hml hts hown hK hw (c_X6_choose l h0 e50) h0 (by decide) rfl (mkV 1 hts k_ml_RX6_102 k_im_yX6_choose k_se_yX6_choose k_in_RX6 k_co_yX6_choose hd_X6_choose ⟨Nat.le_of_ble_eq_true rfl, Nat.le_of_ble_eq_true rfl⟩) rfl hl.1 rfl (Nat.le_of_ble_eq_true rfl) dX6_replace_61 ⟨Nat.le_of_ble_eq_true rfl, Nat.le_of_ble_eq_true rfl⟩) (fun H locs hw => ?_)
      refine lv_goto (tgt := 68) hx hb dX6_replace_64 (by decide) ?_
      exact J68 v3 u0 z49 M hm H locs hw ls (lv_sub hl [1, 2, 3, 4, 0] rfl)
  have J29 : ∀  (u0 : Int32) (M : Mem), m_X6_replace_b29 a0 x1 x2 u0 M = some z → ∀ (H : Heap) (locs : List Loc), WD D cy (Fr A G s.heap.size) A s.heap G M H locs → ∀ ls : Array Slot, lv_has ls 10 [(0, .ref (A a0)), (1, .int x1), (2, .int x2)] → W p l e (headSpec (wm yX6_replace cX6_replace 10 (some .int)) ({ frames := 4, cells := 0, slots := 0, locals := 94 } : Room)).room s m ([.ref (A a0), .int x1, .int x2] : List Value).toArray below meth c H locs 0 0 (MQ below (va_Qi (fun (r' : Int32) (u : Mem) => r' = z.1 ∧ u = z.2) (Po D cy A G (Fr A G s.heap.size)) (Fr A G s.heap.size)) ([.ref (A a0), .int x1, .int x2] : List Value).toArray s 0 0 (Fr A G s.heap.size)) (F0 m 29 ls [.int u0]) := by
    intro u0 M hm H locs hw ls hl
    unfold m_X6_replace_b29 at hm
    refine lv_istore_n (lv' := [(3, .int u0), (0, .ref (A a0)), (1, .int x1), (2, .int x2)]) hx hb dX6_replace_29 rfl hl (by decide) rfl (fun ls hl => ?_)
    refine lv_iload_n hx hb dX6_replace_30 rfl (lv_at hl 0 rfl) ?_
    refine lv_if_eq (tgt := 46) hx hb dX6_replace_31 (by decide) (fun hq4 => ?_) (fun hq4 => ?_)
    · have hm := (if_pos hq4).symm.trans hm
      refine lv_iconst (v := 0) hx hb dX6_replace_46 (by decide) ?_
      exact J47 u0 0 M hm H locs hw ls (lv_sub hl [1, 2, 3, 0] rfl)
    · have hm := (if_neg hq4).symm.trans hm
      refine lv_aload_n hx hb dX6_replace_34 rfl (lv_at hl 1 rfl) ?_
      refine lv_iload_n hx hb dX6_replace_35 rfl (lv_at hl 2 rfl) ?_
      refine lv_bipush (v := 6) hx hb dX6_replace_36 (by decide) ?_
      obtain ⟨z51, e52, hm⟩ := bd_some hm
      refine ki hw Fr_hi (rV hx hb hml hts hown hK hw (c_X6_of l h0 e52) h0 (by decide) rfl (mkV 2 hts k_ml_RX6_31 k_im_yX6_of k_se_yX6_of k_in_RX6 k_co_yX6_of hd_X6_of ⟨Nat.le_of_ble_eq_true rfl, Nat.le_of_ble_eq_true rfl⟩) rfl hl.1 rfl (Nat.le_of_ble_eq_true rfl) dX6_replace_38 ⟨Nat.le_of_ble_eq_true rfl, Nat.le_of_ble_eq_true rfl⟩) (fun H locs hw => ?_)
      refine lv_iconst (v := 1) hx hb dX6_replace_41 (by decide) ?_
      refine lv_isub hx hb dX6_replace_42 ?_
      refine lv_goto (tgt := 47) hx hb dX6_replace_43 (by decide) ?_
      exact J47 u0 (z51 - 1) M hm H locs hw ls (lv_sub hl [1, 2, 3, 0] rfl)
  unfold m_X6_replace at hm
  revert hw
  suffices K : ∀ (H : Heap) (locs : List Loc), WD D cy (Fr A G s.heap.size) A s.heap G M H locs → W p l e (headSpec (wm yX6_replace cX6_replace 10 (some .int)) ({ frames := 4, cells := 0, slots := 0, locals := 94 } : Room)).room s m ([.ref (A a0), .int x1, .int x2] : List Value).toArray below meth c H locs 0 0 (MQ below (va_Qi (fun (r' : Int32) (u : Mem) => r' = z.1 ∧ u = z.2) (Po D cy A G (Fr A G s.heap.size)) (Fr A G s.heap.size)) ([.ref (A a0), .int x1, .int x2] : List Value).toArray s 0 0 (Fr A G s.heap.size)) (F0 m 0 ls []) from fun hw => K _ _ hw
  intro H locs hw
  refine lv_aload_n hx hb dX6_replace_0 rfl (lv_at hl 0 rfl) ?_
  refine lv_iload_n hx hb dX6_replace_1 rfl (lv_at hl 1 rfl) ?_
  obtain ⟨z1, e2, hm⟩ := bd_some hm
  refine ki hw Fr_hi (rV hx hb hml hts hown hK hw (c_X6_isLedger l h0 e2) h0 (by decide) rfl (mkV 1 hts k_ml_RX6_95 k_im_yX6_isLedger k_se_yX6_isLedger k_in_RX6 k_co_yX6_isLedger hd_X6_isLedger ⟨Nat.le_of_ble_eq_true rfl, Nat.le_of_ble_eq_true rfl⟩) rfl hl.1 rfl (Nat.le_of_ble_eq_true rfl) dX6_replace_2 ⟨Nat.le_of_ble_eq_true rfl, Nat.le_of_ble_eq_true rfl⟩) (fun H locs hw => ?_)
  refine lv_if_eq (tgt := 28) hx hb dX6_replace_5 (by decide) (fun hq3 => ?_) (fun hq3 => ?_)
  · have hm := (if_pos hq3).symm.trans hm
    refine lv_iconst (v := 0) hx hb dX6_replace_28 (by decide) ?_
    exact J29 0 M hm H locs hw ls hl
  · have hm := (if_neg hq3).symm.trans hm
    refine lv_iload_n hx hb dX6_replace_8 rfl (lv_at hl 2 rfl) ?_
    refine lv_iconst (v := 0) hx hb dX6_replace_9 (by decide) ?_
    refine lv_aload_n hx hb dX6_replace_10 rfl (lv_at hl 0 rfl) ?_
    refine lv_iload_n hx hb dX6_replace_11 rfl (lv_at hl 1 rfl) ?_
    refine lv_iconst (v := 0) hx hb dX6_replace_12 (by decide) ?_
    obtain ⟨z53, e54, hm⟩ := bd_some hm
    refine ki hw Fr_hi (rV hx hb hml hts hown hK hw (c_X6_of l h0 e54) h0 (by decide) rfl (mkV 2 hts k_ml_RX6_31 k_im_yX6_of k_se_yX6_of k_in_RX6 k_co_yX6_of hd_X6_of ⟨Nat.le_of_ble_eq_true rfl, Nat.le_of_ble_eq_true rfl⟩) rfl hl.1 rfl (Nat.le_of_ble_eq_true rfl) dX6_replace_13 ⟨Nat.le_of_ble_eq_true rfl, Nat.le_of_ble_eq_true rfl⟩) (fun H locs hw => ?_)
    refine lv_iconst (v := 1) hx hb dX6_replace_16 (by decide) ?_
    refine lv_isub hx hb dX6_replace_17 ?_
    refine ki hw Fr_hi (rS hx hb hml hts hown hK hw (c_X6_in l x2 0 (z53 - 1)) (mkS 3 hts k_ml_RX6_23 k_st_yX6_in k_in_RX6 k_co_yX6_in hd_X6_in ⟨Nat.le_of_ble_eq_true rfl, Nat.le_of_ble_eq_true rfl⟩) rfl hl.1 rfl (Nat.le_of_ble_eq_true rfl) dX6_replace_18 ⟨Nat.le_of_ble_eq_true rfl, Nat.le_of_ble_eq_true rfl⟩) (fun H locs hw => ?_)
    refine lv_if_eq (tgt := 28) hx hb dX6_replace_21 (by decide) (fun hq55 => ?_) (fun hq55 => ?_)
    · have hm := (if_pos hq55).symm.trans hm
      refine lv_iconst (v := 0) hx hb dX6_replace_28 (by decide) ?_
      exact J29 0 M hm H locs hw ls hl
    · have hm := (if_neg hq55).symm.trans hm
      refine lv_iconst (v := 1) hx hb dX6_replace_24 (by decide) ?_
      refine lv_goto (tgt := 29) hx hb dX6_replace_25 (by decide) ?_
      exact J29 1 M hm H locs hw ls hl
set_option maxHeartbeats 4000000 in
set_option maxRecDepth 100000 in
theorem c_X6_isUndecided (l : Launch) {D : va_G} {cy : Nat → ClassId} {A : Nat → Nat} {G : Nat → Bool} {M : Mem} {sz : Nat} {a0 : Nat} {x1 : Int32} {x2 : Int32} (h0 : TT G 5 a0)  {z : Int32} (hm : m_X6_isUndecided a0 x1 x2 M = some z) : Met l yX6_isUndecided (wm yX6_isUndecided cX6_isUndecided 7 (some .boolean)) ({ frames := 3, cells := 0, slots := 0, locals := 69 } : Room) (va_Pc [.ref (A a0), .int x1, .int x2] (Pr D cy A G M sz)) (va_Qi (fun (r' : Int32) (u : Mem) => r' = z ∧ u = M) (Po D cy A G (Fr A G sz)) (Fr A G sz))  0 0 (Fr A G sz) := by
  refine ofB (Qc := fun sz => va_Qi (fun (r' : Int32) (u : Mem) => r' = z ∧ u = M) (Po D cy A G (Fr A G sz)) (Fr A G sz)) (by decide +kernel) (Nat.le_of_ble_eq_true rfl) ?_
  intro p e s m below meth c hx hb hr hts hown hlocks hml hmn hK hw ls hl
  have hl : lv_has ls 7 [(0, .ref (A a0)), (1, .int x1), (2, .int x2)] := hl
  have J22 : ∀ (k5 : Int32 → Int32 → Option Int32) (jk5 : ∀ (v3 : Int32) (v4 : Int32), k5 v3 v4 = some z → ∀ (H : Heap) (locs : List Loc), WD D cy (Fr A G s.heap.size) A s.heap G M H locs → ∀ ls : Array Slot, lv_has ls 7 [(0, .ref (A a0)), (1, .int x1), (2, .int x2), (3, .int v3), (4, .int v4)] → W p l e (headSpec (wm yX6_isUndecided cX6_isUndecided 7 (some .boolean)) ({ frames := 3, cells := 0, slots := 0, locals := 69 } : Room)).room s m ([.ref (A a0), .int x1, .int x2] : List Value).toArray below meth c H locs 0 0 (MQ below (va_Qi (fun (r' : Int32) (u : Mem) => r' = z ∧ u = M) (Po D cy A G (Fr A G s.heap.size)) (Fr A G s.heap.size)) ([.ref (A a0), .int x1, .int x2] : List Value).toArray s 0 0 (Fr A G s.heap.size)) (F0 m 5 ls [])) (n : Nat) (v3 : Int32) (v4 : Int32) (v5 : Int32) (v6 : Int32), m_X6_isUndecided_L22 a0 x1 x2 M k5 n v3 v4 v5 v6 = some z → ∀ (H : Heap) (locs : List Loc), WD D cy (Fr A G s.heap.size) A s.heap G M H locs → ∀ ls : Array Slot, lv_has ls 7 [(0, .ref (A a0)), (1, .int x1), (2, .int x2), (3, .int v3), (4, .int v4), (5, .int v5), (6, .int v6)] → W p l e (headSpec (wm yX6_isUndecided cX6_isUndecided 7 (some .boolean)) ({ frames := 3, cells := 0, slots := 0, locals := 69 } : Room)).room s m ([.ref (A a0), .int x1, .int x2] : List Value).toArray below meth c H locs 0 0 (MQ below (va_Qi (fun (r' : Int32) (u : Mem) => r' = z ∧ u = M) (Po D cy A G (Fr A G s.heap.size)) (Fr A G s.heap.size)) ([.ref (A a0), .int x1, .int x2] : List Value).toArray s 0 0 (Fr A G s.heap.size)) (F0 m 22 ls []) := by
    intro k5 jk5 n
    induction n with
    | zero =>
      intro v3 v4 v5 v6 hm
      cases (show (none : Option Int32) = some z from hm)
    | succ n ih =>
      intro v3 v4 v5 v6 hm H locs hw ls hl
      have hm := (m_X6_isUndecided_L22_s a0 x1 x2 M k5 n v3 v4 v5 v6).symm.trans hm
      refine lv_iload hx hb dX6_isUndecided_22 (lv_at hl 6 rfl) ?_
      refine lv_aload_n hx hb dX6_isUndecided_24 rfl (lv_at hl 0 rfl) ?_
      refine lv_iload_n hx hb dX6_isUndecided_25 rfl (lv_at hl 1 rfl) ?_
      refine lv_iconst (v := 1) hx hb dX6_isUndecided_26 (by decide) ?_
      obtain ⟨z5, e6, hm⟩ := bd_some hm
      refine ki hw Fr_hi (rV hx hb hml hts hown hK hw (c_X6_of l h0 e6) h0 (by decide) rfl (mkV 2 hts k_ml_RX6_31 k_im_yX6_of k_se_yX6_of k_in_RX6 k_co_yX6_of hd_X6_of ⟨Nat.le_of_ble_eq_true rfl, Nat.le_of_ble_eq_true rfl⟩) rfl hl.1 rfl (Nat.le_of_ble_eq_true rfl) dX6_isUndecided_27 ⟨Nat.le_of_ble_eq_true rfl, Nat.le_of_ble_eq_true rfl⟩) (fun H locs hw => ?_)
      refine lv_icmp_ge (tgt := 66) hx hb dX6_isUndecided_30 (by decide) (fun hq7 => ?_) (fun hq7 => ?_)
      · have hm := (if_pos hq7).symm.trans hm
        refine lv_iload_n hx hb dX6_isUndecided_66 rfl (lv_at hl 3 rfl) ?_
        refine lv_if_ne (tgt := 81) hx hb dX6_isUndecided_67 (by decide) (fun hq8 => ?_) (fun hq8 => ?_)
        · have hm := (if_neg hq8).symm.trans hm
          refine lv_iconst (v := 1) hx hb dX6_isUndecided_81 (by decide) ?_
          refine lv_goto (tgt := 86) hx hb dX6_isUndecided_82 (by decide) ?_
          refine lv_istore_n (lv' := [(3, .int 1), (0, .ref (A a0)), (1, .int x1), (2, .int x2), (4, .int v4), (5, .int v5), (6, .int v6)]) hx hb dX6_isUndecided_86 rfl hl (by decide) rfl (fun ls hl => ?_)
          refine lv_iinc (v := (v4 + 1)) (lv' := [(4, .int (v4 + 1)), (3, .int 1), (0, .ref (A a0)), (1, .int x1), (2, .int x2), (5, .int v5), (6, .int v6)]) hx hb dX6_isUndecided_87 hl (k := 4) rfl rfl (by decide) rfl (fun ls hl => ?_)
          refine lv_goto (tgt := 5) hx hb dX6_isUndecided_90 (by decide) ?_
          exact jk5 1 (v4 + 1) hm H locs hw ls (lv_sub hl [2, 3, 4, 1, 0] rfl)
        · have hm := (if_pos hq8).symm.trans hm
          refine lv_iload hx hb dX6_isUndecided_70 (lv_at hl 5 rfl) ?_
          refine lv_aload_n hx hb dX6_isUndecided_72 rfl (lv_at hl 0 rfl) ?_
          refine lv_iload_n hx hb dX6_isUndecided_73 rfl (lv_at hl 1 rfl) ?_
          refine lv_iconst (v := 2) hx hb dX6_isUndecided_74 (by decide) ?_
          obtain ⟨z9, e10, hm⟩ := bd_some hm
          refine ki hw Fr_hi (rV hx hb hml hts hown hK hw (c_X6_of l h0 e10) h0 (by decide) rfl (mkV 2 hts k_ml_RX6_31 k_im_yX6_of k_se_yX6_of k_in_RX6 k_co_yX6_of hd_X6_of ⟨Nat.le_of_ble_eq_true rfl, Nat.le_of_ble_eq_true rfl⟩) rfl hl.1 rfl (Nat.le_of_ble_eq_true rfl) dX6_isUndecided_75 ⟨Nat.le_of_ble_eq_true rfl, Nat.le_of_ble_eq_true rfl⟩) (fun H locs hw => ?_)
          refine lv_icmp_lt (tgt := 85) hx hb dX6_isUndecided_78 (by decide) (fun hq11 => ?_) (fun hq11 => ?_)
          · have hm := (if_pos hq11).symm.trans hm
            refine lv_iconst (v := 0) hx hb dX6_isUndecided_85 (by decide) ?_
            refine lv_istore_n (lv' := [(3, .int 0), (0, .ref (A a0)), (1, .int x1), (2, .int x2), (4, .int v4), (5, .int v5), (6, .int v6)]) hx hb dX6_isUndecided_86 rfl hl (by decide) rfl (fun ls hl => ?_)
            refine lv_iinc (v := (v4 + 1)) (lv' := [(4, .int (v4 + 1)), (3, .int 0), (0, .ref (A a0)), (1, .int x1), (2, .int x2), (5, .int v5), (6, .int v6)]) hx hb dX6_isUndecided_87 hl (k := 4) rfl rfl (by decide) rfl (fun ls hl => ?_)
            refine lv_goto (tgt := 5) hx hb dX6_isUndecided_90 (by decide) ?_
            exact jk5 0 (v4 + 1) hm H locs hw ls (lv_sub hl [2, 3, 4, 1, 0] rfl)
          · have hm := (if_neg hq11).symm.trans hm
            refine lv_iconst (v := 1) hx hb dX6_isUndecided_81 (by decide) ?_
            refine lv_goto (tgt := 86) hx hb dX6_isUndecided_82 (by decide) ?_
            refine lv_istore_n (lv' := [(3, .int 1), (0, .ref (A a0)), (1, .int x1), (2, .int x2), (4, .int v4), (5, .int v5), (6, .int v6)]) hx hb dX6_isUndecided_86 rfl hl (by decide) rfl (fun ls hl => ?_)
            refine lv_iinc (v := (v4 + 1)) (lv' := [(4, .int (v4 + 1)), (3, .int 1), (0, .ref (A a0)), (1, .int x1), (2, .int x2), (5, .int v5), (6, .int v6)]) hx hb dX6_isUndecided_87 hl (k := 4) rfl rfl (by decide) rfl (fun ls hl => ?_)
            refine lv_goto (tgt := 5) hx hb dX6_isUndecided_90 (by decide) ?_
            exact jk5 1 (v4 + 1) hm H locs hw ls (lv_sub hl [2, 3, 4, 1, 0] rfl)
      · have hm := (if_neg hq7).symm.trans hm
        refine lv_iload hx hb dX6_isUndecided_33 (lv_at hl 5 rfl) ?_
        refine lv_aload_n hx hb dX6_isUndecided_35 rfl (lv_at hl 0 rfl) ?_
        refine lv_aload_n hx hb dX6_isUndecided_36 rfl (lv_at hl 0 rfl) ?_
        refine lv_iload_n hx hb dX6_isUndecided_37 rfl (lv_at hl 1 rfl) ?_
        refine lv_iload_n hx hb dX6_isUndecided_38 rfl (lv_at hl 2 rfl) ?_
        refine lv_iload hx hb dX6_isUndecided_39 (lv_at hl 4 rfl) ?_
        refine lv_iload hx hb dX6_isUndecided_41 (lv_at hl 6 rfl) ?_
        obtain ⟨z12, e13, hm⟩ := bd_some hm
        refine ki hw Fr_hi (rV hx hb hml hts hown hK hw (c_X6_writer l h0 e13) h0 (by decide) rfl (mkV 4 hts k_ml_RX6_41 k_im_yX6_writer k_se_yX6_writer k_in_RX6 k_co_yX6_writer hd_X6_writer ⟨Nat.le_of_ble_eq_true rfl, Nat.le_of_ble_eq_true rfl⟩) rfl hl.1 rfl (Nat.le_of_ble_eq_true rfl) dX6_isUndecided_43 ⟨Nat.le_of_ble_eq_true rfl, Nat.le_of_ble_eq_true rfl⟩) (fun H locs hw => ?_)
        obtain ⟨z14, e15, hm⟩ := bd_some hm
        refine ki hw Fr_hi (rV hx hb hml hts hown hK hw (c_X6_isUp l h0 e15) h0 (by decide) rfl (mkV 1 hts k_ml_RX6_45 k_im_yX6_isUp k_se_yX6_isUp k_in_RX6 k_co_yX6_isUp hd_X6_isUp ⟨Nat.le_of_ble_eq_true rfl, Nat.le_of_ble_eq_true rfl⟩) rfl hl.1 rfl (Nat.le_of_ble_eq_true rfl) dX6_isUndecided_46 ⟨Nat.le_of_ble_eq_true rfl, Nat.le_of_ble_eq_true rfl⟩) (fun H locs hw => ?_)
        refine lv_if_eq (tgt := 56) hx hb dX6_isUndecided_49 (by decide) (fun hq16 => ?_) (fun hq16 => ?_)
        · have hm := (if_pos hq16).symm.trans hm
          refine lv_iconst (v := 1) hx hb dX6_isUndecided_56 (by decide) ?_
          refine lv_iadd hx hb dX6_isUndecided_57 ?_
          refine lv_istore (lv' := [(5, .int (v5 + 1)), (0, .ref (A a0)), (1, .int x1), (2, .int x2), (3, .int v3), (4, .int v4), (6, .int v6)]) hx hb dX6_isUndecided_58 hl (by decide) rfl (fun ls hl => ?_)
          refine lv_iinc (v := (v6 + 1)) (lv' := [(6, .int (v6 + 1)), (5, .int (v5 + 1)), (0, .ref (A a0)), (1, .int x1), (2, .int x2), (3, .int v3), (4, .int v4)]) hx hb dX6_isUndecided_60 hl (k := 6) rfl rfl (by decide) rfl (fun ls hl => ?_)
          refine lv_goto (tgt := 22) hx hb dX6_isUndecided_63 (by decide) ?_
          exact ih v3 v4 (v5 + 1) (v6 + 1) hm H locs hw ls (lv_sub hl [2, 3, 4, 5, 6, 1, 0] rfl)
        · have hm := (if_neg hq16).symm.trans hm
          refine lv_iconst (v := 0) hx hb dX6_isUndecided_52 (by decide) ?_
          refine lv_goto (tgt := 57) hx hb dX6_isUndecided_53 (by decide) ?_
          refine lv_iadd hx hb dX6_isUndecided_57 ?_
          refine lv_istore (lv' := [(5, .int (v5 + 0)), (0, .ref (A a0)), (1, .int x1), (2, .int x2), (3, .int v3), (4, .int v4), (6, .int v6)]) hx hb dX6_isUndecided_58 hl (by decide) rfl (fun ls hl => ?_)
          refine lv_iinc (v := (v6 + 1)) (lv' := [(6, .int (v6 + 1)), (5, .int (v5 + 0)), (0, .ref (A a0)), (1, .int x1), (2, .int x2), (3, .int v3), (4, .int v4)]) hx hb dX6_isUndecided_60 hl (k := 6) rfl rfl (by decide) rfl (fun ls hl => ?_)
          refine lv_goto (tgt := 22) hx hb dX6_isUndecided_63 (by decide) ?_
          exact ih v3 v4 (v5 + 0) (v6 + 1) hm H locs hw ls (lv_sub hl [2, 3, 4, 5, 6, 1, 0] rfl)
  have J5 : ∀  (n : Nat) (v3 : Int32) (v4 : Int32), m_X6_isUndecided_L5 a0 x1 x2 M n v3 v4 = some z → ∀ (H : Heap) (locs : List Loc), WD D cy (Fr A G s.heap.size) A s.heap G M H locs → ∀ ls : Array Slot, lv_has ls 7 [(0, .ref (A a0)), (1, .int x1), (2, .int x2), (3, .int v3), (4, .int v4)] → W p l e (headSpec (wm yX6_isUndecided cX6_isUndecided 7 (some .boolean)) ({ frames := 3, cells := 0, slots := 0, locals := 69 } : Room)).room s m ([.ref (A a0), .int x1, .int x2] : List Value).toArray below meth c H locs 0 0 (MQ below (va_Qi (fun (r' : Int32) (u : Mem) => r' = z ∧ u = M) (Po D cy A G (Fr A G s.heap.size)) (Fr A G s.heap.size)) ([.ref (A a0), .int x1, .int x2] : List Value).toArray s 0 0 (Fr A G s.heap.size)) (F0 m 5 ls []) := by
    intro n
    induction n with
    | zero =>
      intro v3 v4 hm
      cases (show (none : Option Int32) = some z from hm)
    | succ n ih =>
      intro v3 v4 hm H locs hw ls hl
      have hm := (m_X6_isUndecided_L5_s a0 x1 x2 M n v3 v4).symm.trans hm
      refine lv_iload hx hb dX6_isUndecided_5 (lv_at hl 4 rfl) ?_
      refine lv_aload_n hx hb dX6_isUndecided_7 rfl (lv_at hl 0 rfl) ?_
      refine lv_iload_n hx hb dX6_isUndecided_8 rfl (lv_at hl 1 rfl) ?_
      refine lv_iconst (v := 0) hx hb dX6_isUndecided_9 (by decide) ?_
      obtain ⟨z1, e2, hm⟩ := bd_some hm
      refine ki hw Fr_hi (rV hx hb hml hts hown hK hw (c_X6_of l h0 e2) h0 (by decide) rfl (mkV 2 hts k_ml_RX6_31 k_im_yX6_of k_se_yX6_of k_in_RX6 k_co_yX6_of hd_X6_of ⟨Nat.le_of_ble_eq_true rfl, Nat.le_of_ble_eq_true rfl⟩) rfl hl.1 rfl (Nat.le_of_ble_eq_true rfl) dX6_isUndecided_10 ⟨Nat.le_of_ble_eq_true rfl, Nat.le_of_ble_eq_true rfl⟩) (fun H locs hw => ?_)
      refine lv_icmp_ge (tgt := 93) hx hb dX6_isUndecided_13 (by decide) (fun hq3 => ?_) (fun hq3 => ?_)
      · have hm := (if_pos hq3).symm.trans hm
        refine lv_iload_n hx hb dX6_isUndecided_93 rfl (lv_at hl 3 rfl) ?_
        obtain ⟨hz4, hm⟩ := ck_some hm
        cases hm
        exact eZ hz4 hx hb hr hlocks hK hw dX6_isUndecided_94
      · have hm := (if_neg hq3).symm.trans hm
        refine lv_iconst (v := 0) hx hb dX6_isUndecided_16 (by decide) ?_
        refine lv_istore (lv' := [(5, .int 0), (0, .ref (A a0)), (1, .int x1), (2, .int x2), (3, .int v3), (4, .int v4)]) hx hb dX6_isUndecided_17 hl (by decide) rfl (fun ls hl => ?_)
        refine lv_iconst (v := 0) hx hb dX6_isUndecided_19 (by decide) ?_
        refine lv_istore (lv' := [(6, .int 0), (5, .int 0), (0, .ref (A a0)), (1, .int x1), (2, .int x2), (3, .int v3), (4, .int v4)]) hx hb dX6_isUndecided_20 hl (by decide) rfl (fun ls hl => ?_)
        exact J22 (fun w0 w1 => m_X6_isUndecided_L5 a0 x1 x2 M n w0 w1) (fun w0 w1 hh H locs hw ls hl => ih w0 w1 hh H locs hw ls hl) fuel v3 v4 0 0 hm H locs hw ls (lv_sub hl [2, 3, 4, 5, 6, 1, 0] rfl)
  unfold m_X6_isUndecided at hm
  revert hw
  suffices K : ∀ (H : Heap) (locs : List Loc), WD D cy (Fr A G s.heap.size) A s.heap G M H locs → W p l e (headSpec (wm yX6_isUndecided cX6_isUndecided 7 (some .boolean)) ({ frames := 3, cells := 0, slots := 0, locals := 69 } : Room)).room s m ([.ref (A a0), .int x1, .int x2] : List Value).toArray below meth c H locs 0 0 (MQ below (va_Qi (fun (r' : Int32) (u : Mem) => r' = z ∧ u = M) (Po D cy A G (Fr A G s.heap.size)) (Fr A G s.heap.size)) ([.ref (A a0), .int x1, .int x2] : List Value).toArray s 0 0 (Fr A G s.heap.size)) (F0 m 0 ls []) from fun hw => K _ _ hw
  intro H locs hw
  refine lv_iconst (v := 0) hx hb dX6_isUndecided_0 (by decide) ?_
  refine lv_istore_n (lv' := [(3, .int 0), (0, .ref (A a0)), (1, .int x1), (2, .int x2)]) hx hb dX6_isUndecided_1 rfl hl (by decide) rfl (fun ls hl => ?_)
  refine lv_iconst (v := 0) hx hb dX6_isUndecided_2 (by decide) ?_
  refine lv_istore (lv' := [(4, .int 0), (3, .int 0), (0, .ref (A a0)), (1, .int x1), (2, .int x2)]) hx hb dX6_isUndecided_3 hl (by decide) rfl (fun ls hl => ?_)
  exact J5 fuel 0 0 hm H locs hw ls (lv_sub hl [2, 3, 4, 1, 0] rfl)
set_option maxHeartbeats 4000000 in
set_option maxRecDepth 100000 in
theorem c_X6_storedConfirmed (l : Launch) {D : va_G} {cy : Nat → ClassId} {A : Nat → Nat} {G : Nat → Bool} {M : Mem} {sz : Nat} {a0 : Nat} {x1 : Int32} {x2 : Int32} (h0 : TT G 5 a0)  {z : Int32} (hm : m_X6_storedConfirmed a0 x1 x2 M = some z) : Met l yX6_storedConfirmed (wm yX6_storedConfirmed cX6_storedConfirmed 8 (some .int)) ({ frames := 2, cells := 0, slots := 0, locals := 45 } : Room) (va_Pc [.ref (A a0), .int x1, .int x2] (Pr D cy A G M sz)) (va_Qi (fun (r' : Int32) (u : Mem) => r' = z ∧ u = M) (Po D cy A G (Fr A G sz)) (Fr A G sz))  0 0 (Fr A G sz) := by
  refine ofB (Qc := fun sz => va_Qi (fun (r' : Int32) (u : Mem) => r' = z ∧ u = M) (Po D cy A G (Fr A G sz)) (Fr A G sz)) (by decide +kernel) (Nat.le_of_ble_eq_true rfl) ?_
  intro p e s m below meth c hx hb hr hts hown hlocks hml hmn hK hw ls hl
  have hl : lv_has ls 8 [(0, .ref (A a0)), (1, .int x1), (2, .int x2)] := hl
  have J80 : ∀ (k15 : Int32 → Int32 → Option Int32) (jk15 : ∀ (v3 : Int32) (v4 : Int32), k15 v3 v4 = some z → ∀ (H : Heap) (locs : List Loc), WD D cy (Fr A G s.heap.size) A s.heap G M H locs → ∀ ls : Array Slot, lv_has ls 8 [(0, .ref (A a0)), (1, .int x1), (2, .int x2), (3, .int v3), (4, .int v4)] → W p l e (headSpec (wm yX6_storedConfirmed cX6_storedConfirmed 8 (some .int)) ({ frames := 2, cells := 0, slots := 0, locals := 45 } : Room)).room s m ([.ref (A a0), .int x1, .int x2] : List Value).toArray below meth c H locs 0 0 (MQ below (va_Qi (fun (r' : Int32) (u : Mem) => r' = z ∧ u = M) (Po D cy A G (Fr A G s.heap.size)) (Fr A G s.heap.size)) ([.ref (A a0), .int x1, .int x2] : List Value).toArray s 0 0 (Fr A G s.heap.size)) (F0 m 15 ls [])) (k39 : Int32 → Int32 → Int32 → Int32 → Option Int32) (jk39 : ∀ (v3 : Int32) (v4 : Int32) (v5 : Int32) (v6 : Int32), k39 v3 v4 v5 v6 = some z → ∀ (H : Heap) (locs : List Loc), WD D cy (Fr A G s.heap.size) A s.heap G M H locs → ∀ ls : Array Slot, lv_has ls 8 [(0, .ref (A a0)), (1, .int x1), (2, .int x2), (3, .int v3), (4, .int v4), (5, .int v5), (6, .int v6)] → W p l e (headSpec (wm yX6_storedConfirmed cX6_storedConfirmed 8 (some .int)) ({ frames := 2, cells := 0, slots := 0, locals := 45 } : Room)).room s m ([.ref (A a0), .int x1, .int x2] : List Value).toArray below meth c H locs 0 0 (MQ below (va_Qi (fun (r' : Int32) (u : Mem) => r' = z ∧ u = M) (Po D cy A G (Fr A G s.heap.size)) (Fr A G s.heap.size)) ([.ref (A a0), .int x1, .int x2] : List Value).toArray s 0 0 (Fr A G s.heap.size)) (F0 m 39 ls [])) (v3 : Int32) (v4 : Int32) (v5 : Int32) (v6 : Int32) (u0 : Int32), m_X6_storedConfirmed_b80 a0 x1 x2 M k15 k39 v3 v4 v5 v6 u0 = some z → ∀ (H : Heap) (locs : List Loc), WD D cy (Fr A G s.heap.size) A s.heap G M H locs → ∀ ls : Array Slot, lv_has ls 8 [(0, .ref (A a0)), (1, .int x1), (2, .int x2), (3, .int v3), (4, .int v4), (5, .int v5), (6, .int v6)] → W p l e (headSpec (wm yX6_storedConfirmed cX6_storedConfirmed 8 (some .int)) ({ frames := 2, cells := 0, slots := 0, locals := 45 } : Room)).room s m ([.ref (A a0), .int x1, .int x2] : List Value).toArray below meth c H locs 0 0 (MQ below (va_Qi (fun (r' : Int32) (u : Mem) => r' = z ∧ u = M) (Po D cy A G (Fr A G s.heap.size)) (Fr A G s.heap.size)) ([.ref (A a0), .int x1, .int x2] : List Value).toArray s 0 0 (Fr A G s.heap.size)) (F0 m 80 ls [.int u0]) := by
    intro k15 jk15 k39 jk39 v3 v4 v5 v6 u0 hm H locs hw ls hl
    unfold m_X6_storedConfirmed_b80 at hm
    refine lv_istore (lv' := [(7, .int u0), (0, .ref (A a0)), (1, .int x1), (2, .int x2), (3, .int v3), (4, .int v4), (5, .int v5), (6, .int v6)]) hx hb dX6_storedConfirmed_80 hl (by decide) rfl (fun ls hl => ?_)
    refine lv_iload hx hb dX6_storedConfirmed_82 (lv_at hl 0 rfl) ?_
    refine lv_iload_n hx hb dX6_storedConfirmed_84 rfl (lv_at hl 4 rfl) ?_
    refine lv_icmp_le (tgt := 93) hx hb dX6_storedConfirmed_85 (by decide) (fun hq12 => ?_) (fun hq12 => ?_)
    · have hm := (if_pos hq12).symm.trans hm
      refine lv_iload_n hx hb dX6_storedConfirmed_93 rfl (lv_at hl 4 rfl) ?_
      refine lv_istore_n (lv' := [(3, .int v3), (7, .int u0), (0, .ref (A a0)), (1, .int x1), (2, .int x2), (4, .int v4), (5, .int v5), (6, .int v6)]) hx hb dX6_storedConfirmed_94 rfl hl (by decide) rfl (fun ls hl => ?_)
      refine lv_iinc (v := (v6 + 1)) (lv' := [(6, .int (v6 + 1)), (3, .int v3), (7, .int u0), (0, .ref (A a0)), (1, .int x1), (2, .int x2), (4, .int v4), (5, .int v5)]) hx hb dX6_storedConfirmed_95 hl (k := 7) rfl rfl (by decide) rfl (fun ls hl => ?_)
      refine lv_goto (tgt := 39) hx hb dX6_storedConfirmed_98 (by decide) ?_
      exact jk39 v3 v4 v5 (v6 + 1) hm H locs hw ls (lv_sub hl [3, 4, 5, 1, 6, 7, 0] rfl)
    · have hm := (if_neg hq12).symm.trans hm
      refine lv_iload hx hb dX6_storedConfirmed_88 (lv_at hl 0 rfl) ?_
      refine lv_goto (tgt := 94) hx hb dX6_storedConfirmed_90 (by decide) ?_
      refine lv_istore_n (lv' := [(3, .int u0), (7, .int u0), (0, .ref (A a0)), (1, .int x1), (2, .int x2), (4, .int v4), (5, .int v5), (6, .int v6)]) hx hb dX6_storedConfirmed_94 rfl hl (by decide) rfl (fun ls hl => ?_)
      refine lv_iinc (v := (v6 + 1)) (lv' := [(6, .int (v6 + 1)), (3, .int u0), (7, .int u0), (0, .ref (A a0)), (1, .int x1), (2, .int x2), (4, .int v4), (5, .int v5)]) hx hb dX6_storedConfirmed_95 hl (k := 7) rfl rfl (by decide) rfl (fun ls hl => ?_)
      refine lv_goto (tgt := 39) hx hb dX6_storedConfirmed_98 (by decide) ?_
      exact jk39 u0 v4 v5 (v6 + 1) hm H locs hw ls (lv_sub hl [3, 4, 5, 1, 6, 7, 0] rfl)
  have J39 : ∀ (k15 : Int32 → Int32 → Option Int32) (jk15 : ∀ (v3 : Int32) (v4 : Int32), k15 v3 v4 = some z → ∀ (H : Heap) (locs : List Loc), WD D cy (Fr A G s.heap.size) A s.heap G M H locs → ∀ ls : Array Slot, lv_has ls 8 [(0, .ref (A a0)), (1, .int x1), (2, .int x2), (3, .int v3), (4, .int v4)] → W p l e (headSpec (wm yX6_storedConfirmed cX6_storedConfirmed 8 (some .int)) ({ frames := 2, cells := 0, slots := 0, locals := 45 } : Room)).room s m ([.ref (A a0), .int x1, .int x2] : List Value).toArray below meth c H locs 0 0 (MQ below (va_Qi (fun (r' : Int32) (u : Mem) => r' = z ∧ u = M) (Po D cy A G (Fr A G s.heap.size)) (Fr A G s.heap.size)) ([.ref (A a0), .int x1, .int x2] : List Value).toArray s 0 0 (Fr A G s.heap.size)) (F0 m 15 ls [])) (n : Nat) (v3 : Int32) (v4 : Int32) (v5 : Int32) (v6 : Int32), m_X6_storedConfirmed_L39 a0 x1 x2 M k15 n v3 v4 v5 v6 = some z → ∀ (H : Heap) (locs : List Loc), WD D cy (Fr A G s.heap.size) A s.heap G M H locs → ∀ ls : Array Slot, lv_has ls 8 [(0, .ref (A a0)), (1, .int x1), (2, .int x2), (3, .int v3), (4, .int v4), (5, .int v5), (6, .int v6)] → W p l e (headSpec (wm yX6_storedConfirmed cX6_storedConfirmed 8 (some .int)) ({ frames := 2, cells := 0, slots := 0, locals := 45 } : Room)).room s m ([.ref (A a0), .int x1, .int x2] : List Value).toArray below meth c H locs 0 0 (MQ below (va_Qi (fun (r' : Int32) (u : Mem) => r' = z ∧ u = M) (Po D cy A G (Fr A G s.heap.size)) (Fr A G s.heap.size)) ([.ref (A a0), .int x1, .int x2] : List Value).toArray s 0 0 (Fr A G s.heap.size)) (F0 m 39 ls []) := by
    intro k15 jk15 n
    induction n with
    | zero =>
      intro v3 v4 v5 v6 hm
      cases (show (none : Option Int32) = some z from hm)
    | succ n ih =>
      intro v3 v4 v5 v6 hm H locs hw ls hl
      have hm := (m_X6_storedConfirmed_L39_s a0 x1 x2 M k15 n v3 v4 v5 v6).symm.trans hm
      refine lv_iload hx hb dX6_storedConfirmed_39 (lv_at hl 6 rfl) ?_
      refine lv_bipush (v := 40) hx hb dX6_storedConfirmed_41 (by decide) ?_
      refine lv_icmp_ge (tgt := 101) hx hb dX6_storedConfirmed_43 (by decide) (fun hq8 => ?_) (fun hq8 => ?_)
      · have hm := (if_pos hq8).symm.trans hm
        refine lv_iinc (v := (v4 + 1)) (lv' := [(4, .int (v4 + 1)), (0, .ref (A a0)), (1, .int x1), (2, .int x2), (3, .int v3), (5, .int v5), (6, .int v6)]) hx hb dX6_storedConfirmed_101 hl (k := 4) rfl rfl (by decide) rfl (fun ls hl => ?_)
        refine lv_goto (tgt := 15) hx hb dX6_storedConfirmed_104 (by decide) ?_
        exact jk15 v3 (v4 + 1) hm H locs hw ls (lv_sub hl [1, 2, 3, 4, 0] rfl)
      · have hm := (if_neg hq8).symm.trans hm
        refine lv_aload_n hx hb dX6_storedConfirmed_46 rfl (lv_at hl 0 rfl) ?_
        refine lv_iload hx hb dX6_storedConfirmed_47 (lv_at hl 5 rfl) ?_
        obtain ⟨z9, e10, hm⟩ := bd_some hm
        refine ki hw Fr_hi (rV hx hb hml hts hown hK hw (c_X6_isUp l h0 e10) h0 (by decide) rfl (mkV 1 hts k_ml_RX6_45 k_im_yX6_isUp k_se_yX6_isUp k_in_RX6 k_co_yX6_isUp hd_X6_isUp ⟨Nat.le_of_ble_eq_true rfl, Nat.le_of_ble_eq_true rfl⟩) rfl hl.1 rfl (Nat.le_of_ble_eq_true rfl) dX6_storedConfirmed_49 ⟨Nat.le_of_ble_eq_true rfl, Nat.le_of_ble_eq_true rfl⟩) (fun H locs hw => ?_)
        refine lv_if_eq (tgt := 79) hx hb dX6_storedConfirmed_52 (by decide) (fun hq11 => ?_) (fun hq11 => ?_)
        · have hm := (if_pos hq11).symm.trans hm
          refine lv_iconst (v := (-1)) hx hb dX6_storedConfirmed_79 (by decide) ?_
          exact J80 k15 jk15 (fun w0 w1 w2 w3 => m_X6_storedConfirmed_L39 a0 x1 x2 M k15 n w0 w1 w2 w3) (fun w0 w1 w2 w3 hh H locs hw ls hl => ih w0 w1 w2 w3 hh H locs hw ls hl) v3 v4 v5 v6 (-1) hm H locs hw ls hl
        · have hm := (if_neg hq11).symm.trans hm
          refine lv_aload_n hx hb dX6_storedConfirmed_55 rfl (lv_at hl 0 rfl) ?_
          refine lv_iload hx hb dX6_storedConfirmed_56 (lv_at hl 5 rfl) ?_
          refine lv_iload_n hx hb dX6_storedConfirmed_58 rfl (lv_at hl 1 rfl) ?_
          refine lv_iload hx hb dX6_storedConfirmed_59 (lv_at hl 6 rfl) ?_
          obtain ⟨z13, e14, hm⟩ := bd_some hm
          refine ki hw Fr_hi (rV hx hb hml hts hown hK hw (c_X6_stores l h0 e14) h0 (by decide) rfl (mkV 3 hts k_ml_RX6_112 k_im_yX6_stores k_se_yX6_stores k_in_RX6 k_co_yX6_stores hd_X6_stores ⟨Nat.le_of_ble_eq_true rfl, Nat.le_of_ble_eq_true rfl⟩) rfl hl.1 rfl (Nat.le_of_ble_eq_true rfl) dX6_storedConfirmed_61 ⟨Nat.le_of_ble_eq_true rfl, Nat.le_of_ble_eq_true rfl⟩) (fun H locs hw => ?_)
          refine lv_if_eq (tgt := 79) hx hb dX6_storedConfirmed_64 (by decide) (fun hq15 => ?_) (fun hq15 => ?_)
          · have hm := (if_pos hq15).symm.trans hm
            refine lv_iconst (v := (-1)) hx hb dX6_storedConfirmed_79 (by decide) ?_
            exact J80 k15 jk15 (fun w0 w1 w2 w3 => m_X6_storedConfirmed_L39 a0 x1 x2 M k15 n w0 w1 w2 w3) (fun w0 w1 w2 w3 hh H locs hw ls hl => ih w0 w1 w2 w3 hh H locs hw ls hl) v3 v4 v5 v6 (-1) hm H locs hw ls hl
          · have hm := (if_neg hq15).symm.trans hm
            refine lv_aload_n hx hb dX6_storedConfirmed_67 rfl (lv_at hl 0 rfl) ?_
            refine lv_iload hx hb dX6_storedConfirmed_68 (lv_at hl 5 rfl) ?_
            refine lv_iload_n hx hb dX6_storedConfirmed_70 rfl (lv_at hl 1 rfl) ?_
            refine lv_iload hx hb dX6_storedConfirmed_71 (lv_at hl 6 rfl) ?_
            obtain ⟨z16, e17, hm⟩ := bd_some hm
            refine ki hw Fr_hi (rV hx hb hml hts hown hK hw (c_X6_confirmedAt l h0 e17) h0 (by decide) rfl (mkV 3 hts k_ml_RX6_115 k_im_yX6_confirmedAt k_se_yX6_confirmedAt k_in_RX6 k_co_yX6_confirmedAt hd_X6_confirmedAt ⟨Nat.le_of_ble_eq_true rfl, Nat.le_of_ble_eq_true rfl⟩) rfl hl.1 rfl (Nat.le_of_ble_eq_true rfl) dX6_storedConfirmed_73 ⟨Nat.le_of_ble_eq_true rfl, Nat.le_of_ble_eq_true rfl⟩) (fun H locs hw => ?_)
            refine lv_goto (tgt := 80) hx hb dX6_storedConfirmed_76 (by decide) ?_
            exact J80 k15 jk15 (fun w0 w1 w2 w3 => m_X6_storedConfirmed_L39 a0 x1 x2 M k15 n w0 w1 w2 w3) (fun w0 w1 w2 w3 hh H locs hw ls hl => ih w0 w1 w2 w3 hh H locs hw ls hl) v3 v4 v5 v6 z16 hm H locs hw ls hl
  have J15 : ∀  (n : Nat) (v3 : Int32) (v4 : Int32), m_X6_storedConfirmed_L15 a0 x1 x2 M n v3 v4 = some z → ∀ (H : Heap) (locs : List Loc), WD D cy (Fr A G s.heap.size) A s.heap G M H locs → ∀ ls : Array Slot, lv_has ls 8 [(0, .ref (A a0)), (1, .int x1), (2, .int x2), (3, .int v3), (4, .int v4)] → W p l e (headSpec (wm yX6_storedConfirmed cX6_storedConfirmed 8 (some .int)) ({ frames := 2, cells := 0, slots := 0, locals := 45 } : Room)).room s m ([.ref (A a0), .int x1, .int x2] : List Value).toArray below meth c H locs 0 0 (MQ below (va_Qi (fun (r' : Int32) (u : Mem) => r' = z ∧ u = M) (Po D cy A G (Fr A G s.heap.size)) (Fr A G s.heap.size)) ([.ref (A a0), .int x1, .int x2] : List Value).toArray s 0 0 (Fr A G s.heap.size)) (F0 m 15 ls []) := by
    intro n
    induction n with
    | zero =>
      intro v3 v4 hm
      cases (show (none : Option Int32) = some z from hm)
    | succ n ih =>
      intro v3 v4 hm H locs hw ls hl
      have hm := (m_X6_storedConfirmed_L15_s a0 x1 x2 M n v3 v4).symm.trans hm
      refine lv_iload hx hb dX6_storedConfirmed_15 (lv_at hl 4 rfl) ?_
      refine lv_aload_n hx hb dX6_storedConfirmed_17 rfl (lv_at hl 0 rfl) ?_
      refine lv_iload_n hx hb dX6_storedConfirmed_18 rfl (lv_at hl 1 rfl) ?_
      refine lv_iconst (v := 0) hx hb dX6_storedConfirmed_19 (by decide) ?_
      obtain ⟨z3, e4, hm⟩ := bd_some hm
      refine ki hw Fr_hi (rV hx hb hml hts hown hK hw (c_X6_of l h0 e4) h0 (by decide) rfl (mkV 2 hts k_ml_RX6_31 k_im_yX6_of k_se_yX6_of k_in_RX6 k_co_yX6_of hd_X6_of ⟨Nat.le_of_ble_eq_true rfl, Nat.le_of_ble_eq_true rfl⟩) rfl hl.1 rfl (Nat.le_of_ble_eq_true rfl) dX6_storedConfirmed_20 ⟨Nat.le_of_ble_eq_true rfl, Nat.le_of_ble_eq_true rfl⟩) (fun H locs hw => ?_)
      refine lv_icmp_ge (tgt := 107) hx hb dX6_storedConfirmed_23 (by decide) (fun hq5 => ?_) (fun hq5 => ?_)
      · have hm := (if_pos hq5).symm.trans hm
        refine lv_iload_n hx hb dX6_storedConfirmed_107 rfl (lv_at hl 3 rfl) ?_
        cases hm
        exact eI hx hb hr hlocks hK hw dX6_storedConfirmed_108
      · have hm := (if_neg hq5).symm.trans hm
        refine lv_aload_n hx hb dX6_storedConfirmed_26 rfl (lv_at hl 0 rfl) ?_
        refine lv_iload_n hx hb dX6_storedConfirmed_27 rfl (lv_at hl 1 rfl) ?_
        refine lv_iload_n hx hb dX6_storedConfirmed_28 rfl (lv_at hl 2 rfl) ?_
        refine lv_iload hx hb dX6_storedConfirmed_29 (lv_at hl 4 rfl) ?_
        obtain ⟨z6, e7, hm⟩ := bd_some hm
        refine ki hw Fr_hi (rV hx hb hml hts hown hK hw (c_X6_memberOf l h0 e7) h0 (by decide) rfl (mkV 3 hts k_ml_RX6_35 k_im_yX6_memberOf k_se_yX6_memberOf k_in_RX6 k_co_yX6_memberOf hd_X6_memberOf ⟨Nat.le_of_ble_eq_true rfl, Nat.le_of_ble_eq_true rfl⟩) rfl hl.1 rfl (Nat.le_of_ble_eq_true rfl) dX6_storedConfirmed_31 ⟨Nat.le_of_ble_eq_true rfl, Nat.le_of_ble_eq_true rfl⟩) (fun H locs hw => ?_)
        refine lv_istore (lv' := [(5, .int z6), (0, .ref (A a0)), (1, .int x1), (2, .int x2), (3, .int v3), (4, .int v4)]) hx hb dX6_storedConfirmed_34 hl (by decide) rfl (fun ls hl => ?_)
        refine lv_iconst (v := 0) hx hb dX6_storedConfirmed_36 (by decide) ?_
        refine lv_istore (lv' := [(6, .int 0), (5, .int z6), (0, .ref (A a0)), (1, .int x1), (2, .int x2), (3, .int v3), (4, .int v4)]) hx hb dX6_storedConfirmed_37 hl (by decide) rfl (fun ls hl => ?_)
        exact J39 (fun w0 w1 => m_X6_storedConfirmed_L15 a0 x1 x2 M n w0 w1) (fun w0 w1 hh H locs hw ls hl => ih w0 w1 hh H locs hw ls hl) fuel v3 v4 z6 0 hm H locs hw ls (lv_sub hl [2, 3, 4, 5, 6, 1, 0] rfl)
  unfold m_X6_storedConfirmed at hm
  revert hw
  suffices K : ∀ (H : Heap) (locs : List Loc), WD D cy (Fr A G s.heap.size) A s.heap G M H locs → W p l e (headSpec (wm yX6_storedConfirmed cX6_storedConfirmed 8 (some .int)) ({ frames := 2, cells := 0, slots := 0, locals := 45 } : Room)).room s m ([.ref (A a0), .int x1, .int x2] : List Value).toArray below meth c H locs 0 0 (MQ below (va_Qi (fun (r' : Int32) (u : Mem) => r' = z ∧ u = M) (Po D cy A G (Fr A G s.heap.size)) (Fr A G s.heap.size)) ([.ref (A a0), .int x1, .int x2] : List Value).toArray s 0 0 (Fr A G s.heap.size)) (F0 m 0 ls []) from fun hw => K _ _ hw
  intro H locs hw
  refine lv_aload_n hx hb dX6_storedConfirmed_0 rfl (lv_at hl 0 rfl) ?_
  refine lv_iload_n hx hb dX6_storedConfirmed_1 rfl (lv_at hl 1 rfl) ?_
  refine lv_bipush (v := 87) hx hb dX6_storedConfirmed_2 (by decide) ?_
  refine lv_iload_n hx hb dX6_storedConfirmed_4 rfl (lv_at hl 2 rfl) ?_
  refine lv_iadd hx hb dX6_storedConfirmed_5 ?_
  obtain ⟨z1, e2, hm⟩ := bd_some hm
  refine ki hw Fr_hi (rV hx hb hml hts hown hK hw (c_X6_of l h0 e2) h0 (by decide) rfl (mkV 2 hts k_ml_RX6_31 k_im_yX6_of k_se_yX6_of k_in_RX6 k_co_yX6_of hd_X6_of ⟨Nat.le_of_ble_eq_true rfl, Nat.le_of_ble_eq_true rfl⟩) rfl hl.1 rfl (Nat.le_of_ble_eq_true rfl) dX6_storedConfirmed_6 ⟨Nat.le_of_ble_eq_true rfl, Nat.le_of_ble_eq_true rfl⟩) (fun H locs hw => ?_)
  refine lv_iconst (v := 1) hx hb dX6_storedConfirmed_9 (by decide) ?_
  refine lv_isub hx hb dX6_storedConfirmed_10 ?_
  refine lv_istore_n (lv' := [(3, .int (z1 - 1)), (0, .ref (A a0)), (1, .int x1), (2, .int x2)]) hx hb dX6_storedConfirmed_11 rfl hl (by decide) rfl (fun ls hl => ?_)
  refine lv_iconst (v := 0) hx hb dX6_storedConfirmed_12 (by decide) ?_
  refine lv_istore (lv' := [(4, .int 0), (3, .int (z1 - 1)), (0, .ref (A a0)), (1, .int x1), (2, .int x2)]) hx hb dX6_storedConfirmed_13 hl (by decide) rfl (fun ls hl => ?_)
  exact J15 fuel (z1 - 1) 0 hm H locs hw ls (lv_sub hl [2, 3, 4, 1, 0] rfl)
set_option maxHeartbeats 4000000 in
set_option maxRecDepth 100000 in
theorem c_X6_source (l : Launch) {D : va_G} {cy : Nat → ClassId} {A : Nat → Nat} {G : Nat → Bool} {M : Mem} {sz : Nat} {a0 : Nat} {x1 : Int32} {x2 : Int32} (h0 : TT G 5 a0)  {z : Int32} (hm : m_X6_source a0 x1 x2 M = some z) : Met l yX6_source (wm yX6_source cX6_source 6 (some .int)) ({ frames := 3, cells := 0, slots := 0, locals := 69 } : Room) (va_Pc [.ref (A a0), .int x1, .int x2] (Pr D cy A G M sz)) (va_Qi (fun (r' : Int32) (u : Mem) => r' = z ∧ u = M) (Po D cy A G (Fr A G sz)) (Fr A G sz))  0 0 (Fr A G sz) := by
  refine ofB (Qc := fun sz => va_Qi (fun (r' : Int32) (u : Mem) => r' = z ∧ u = M) (Po D cy A G (Fr A G sz)) (Fr A G sz)) (by decide +kernel) (Nat.le_of_ble_eq_true rfl) ?_
  intro p e s m below meth c hx hb hr hts hown hlocks hml hmn hK hw ls hl
  have hl : lv_has ls 6 [(0, .ref (A a0)), (1, .int x1), (2, .int x2)] := hl
  have J10 : ∀  (n : Nat) (v3 : Int32) (v4 : Int32), m_X6_source_L10 a0 x1 x2 M n v3 v4 = some z → ∀ (H : Heap) (locs : List Loc), WD D cy (Fr A G s.heap.size) A s.heap G M H locs → ∀ ls : Array Slot, lv_has ls 6 [(0, .ref (A a0)), (1, .int x1), (2, .int x2), (3, .int v3), (4, .int v4)] → W p l e (headSpec (wm yX6_source cX6_source 6 (some .int)) ({ frames := 3, cells := 0, slots := 0, locals := 69 } : Room)).room s m ([.ref (A a0), .int x1, .int x2] : List Value).toArray below meth c H locs 0 0 (MQ below (va_Qi (fun (r' : Int32) (u : Mem) => r' = z ∧ u = M) (Po D cy A G (Fr A G s.heap.size)) (Fr A G s.heap.size)) ([.ref (A a0), .int x1, .int x2] : List Value).toArray s 0 0 (Fr A G s.heap.size)) (F0 m 10 ls []) := by
    intro n
    induction n with
    | zero =>
      intro v3 v4 hm
      cases (show (none : Option Int32) = some z from hm)
    | succ n ih =>
      intro v3 v4 hm H locs hw ls hl
      have hm := (m_X6_source_L10_s a0 x1 x2 M n v3 v4).symm.trans hm
      refine lv_iload hx hb dX6_source_10 (lv_at hl 4 rfl) ?_
      refine lv_aload_n hx hb dX6_source_12 rfl (lv_at hl 0 rfl) ?_
      refine lv_iload_n hx hb dX6_source_13 rfl (lv_at hl 1 rfl) ?_
      refine lv_iconst (v := 1) hx hb dX6_source_14 (by decide) ?_
      obtain ⟨z3, e4, hm⟩ := bd_some hm
      refine ki hw Fr_hi (rV hx hb hml hts hown hK hw (c_X6_of l h0 e4) h0 (by decide) rfl (mkV 2 hts k_ml_RX6_31 k_im_yX6_of k_se_yX6_of k_in_RX6 k_co_yX6_of hd_X6_of ⟨Nat.le_of_ble_eq_true rfl, Nat.le_of_ble_eq_true rfl⟩) rfl hl.1 rfl (Nat.le_of_ble_eq_true rfl) dX6_source_15 ⟨Nat.le_of_ble_eq_true rfl, Nat.le_of_ble_eq_true rfl⟩) (fun H locs hw => ?_)
      refine lv_icmp_ge (tgt := 61) hx hb dX6_source_18 (by decide) (fun hq5 => ?_) (fun hq5 => ?_)
      · have hm := (if_pos hq5).symm.trans hm
        refine lv_iconst (v := (-1)) hx hb dX6_source_61 (by decide) ?_
        cases hm
        exact eI hx hb hr hlocks hK hw dX6_source_62
      · have hm := (if_neg hq5).symm.trans hm
        refine lv_aload_n hx hb dX6_source_21 rfl (lv_at hl 0 rfl) ?_
        refine lv_iload_n hx hb dX6_source_22 rfl (lv_at hl 1 rfl) ?_
        refine lv_iload_n hx hb dX6_source_23 rfl (lv_at hl 3 rfl) ?_
        refine lv_iload_n hx hb dX6_source_24 rfl (lv_at hl 2 rfl) ?_
        refine lv_iload hx hb dX6_source_25 (lv_at hl 4 rfl) ?_
        obtain ⟨z6, e7, hm⟩ := bd_some hm
        refine ki hw Fr_hi (rV hx hb hml hts hown hK hw (c_X6_writer l h0 e7) h0 (by decide) rfl (mkV 4 hts k_ml_RX6_41 k_im_yX6_writer k_se_yX6_writer k_in_RX6 k_co_yX6_writer hd_X6_writer ⟨Nat.le_of_ble_eq_true rfl, Nat.le_of_ble_eq_true rfl⟩) rfl hl.1 rfl (Nat.le_of_ble_eq_true rfl) dX6_source_27 ⟨Nat.le_of_ble_eq_true rfl, Nat.le_of_ble_eq_true rfl⟩) (fun H locs hw => ?_)
        refine lv_istore (lv' := [(5, .int z6), (0, .ref (A a0)), (1, .int x1), (2, .int x2), (3, .int v3), (4, .int v4)]) hx hb dX6_source_30 hl (by decide) rfl (fun ls hl => ?_)
        refine lv_aload_n hx hb dX6_source_32 rfl (lv_at hl 1 rfl) ?_
        refine lv_iload hx hb dX6_source_33 (lv_at hl 0 rfl) ?_
        obtain ⟨z8, e9, hm⟩ := bd_some hm
        refine ki hw Fr_hi (rV hx hb hml hts hown hK hw (c_X6_isUp l h0 e9) h0 (by decide) rfl (mkV 1 hts k_ml_RX6_45 k_im_yX6_isUp k_se_yX6_isUp k_in_RX6 k_co_yX6_isUp hd_X6_isUp ⟨Nat.le_of_ble_eq_true rfl, Nat.le_of_ble_eq_true rfl⟩) rfl hl.1 rfl (Nat.le_of_ble_eq_true rfl) dX6_source_35 ⟨Nat.le_of_ble_eq_true rfl, Nat.le_of_ble_eq_true rfl⟩) (fun H locs hw => ?_)
        refine lv_if_eq (tgt := 55) hx hb dX6_source_38 (by decide) (fun hq10 => ?_) (fun hq10 => ?_)
        · have hm := (if_pos hq10).symm.trans hm
          refine lv_iinc (v := (v4 + 1)) (lv' := [(4, .int (v4 + 1)), (5, .int z6), (0, .ref (A a0)), (1, .int x1), (2, .int x2), (3, .int v3)]) hx hb dX6_source_55 hl (k := 5) rfl rfl (by decide) rfl (fun ls hl => ?_)
          refine lv_goto (tgt := 10) hx hb dX6_source_58 (by decide) ?_
          exact ih v3 (v4 + 1) hm H locs hw ls (lv_sub hl [2, 3, 4, 5, 0] rfl)
        · have hm := (if_neg hq10).symm.trans hm
          refine lv_aload_n hx hb dX6_source_41 rfl (lv_at hl 1 rfl) ?_
          refine lv_iload hx hb dX6_source_42 (lv_at hl 0 rfl) ?_
          refine lv_iload_n hx hb dX6_source_44 rfl (lv_at hl 2 rfl) ?_
          refine lv_iload_n hx hb dX6_source_45 rfl (lv_at hl 3 rfl) ?_
          obtain ⟨z11, e12, hm⟩ := bd_some hm
          refine ki hw Fr_hi (rV hx hb hml hts hown hK hw (c_X6_stores l h0 e12) h0 (by decide) rfl (mkV 3 hts k_ml_RX6_112 k_im_yX6_stores k_se_yX6_stores k_in_RX6 k_co_yX6_stores hd_X6_stores ⟨Nat.le_of_ble_eq_true rfl, Nat.le_of_ble_eq_true rfl⟩) rfl hl.1 rfl (Nat.le_of_ble_eq_true rfl) dX6_source_46 ⟨Nat.le_of_ble_eq_true rfl, Nat.le_of_ble_eq_true rfl⟩) (fun H locs hw => ?_)
          refine lv_if_eq (tgt := 55) hx hb dX6_source_49 (by decide) (fun hq13 => ?_) (fun hq13 => ?_)
          · have hm := (if_pos hq13).symm.trans hm
            refine lv_iinc (v := (v4 + 1)) (lv' := [(4, .int (v4 + 1)), (5, .int z6), (0, .ref (A a0)), (1, .int x1), (2, .int x2), (3, .int v3)]) hx hb dX6_source_55 hl (k := 5) rfl rfl (by decide) rfl (fun ls hl => ?_)
            refine lv_goto (tgt := 10) hx hb dX6_source_58 (by decide) ?_
            exact ih v3 (v4 + 1) hm H locs hw ls (lv_sub hl [2, 3, 4, 5, 0] rfl)
          · have hm := (if_neg hq13).symm.trans hm
            refine lv_iload hx hb dX6_source_52 (lv_at hl 0 rfl) ?_
            cases hm
            exact eI hx hb hr hlocks hK hw dX6_source_54
  unfold m_X6_source at hm
  revert hw
  suffices K : ∀ (H : Heap) (locs : List Loc), WD D cy (Fr A G s.heap.size) A s.heap G M H locs → W p l e (headSpec (wm yX6_source cX6_source 6 (some .int)) ({ frames := 3, cells := 0, slots := 0, locals := 69 } : Room)).room s m ([.ref (A a0), .int x1, .int x2] : List Value).toArray below meth c H locs 0 0 (MQ below (va_Qi (fun (r' : Int32) (u : Mem) => r' = z ∧ u = M) (Po D cy A G (Fr A G s.heap.size)) (Fr A G s.heap.size)) ([.ref (A a0), .int x1, .int x2] : List Value).toArray s 0 0 (Fr A G s.heap.size)) (F0 m 0 ls []) from fun hw => K _ _ hw
  intro H locs hw
  refine lv_aload_n hx hb dX6_source_0 rfl (lv_at hl 0 rfl) ?_
  refine lv_iload_n hx hb dX6_source_1 rfl (lv_at hl 1 rfl) ?_
  refine lv_iload_n hx hb dX6_source_2 rfl (lv_at hl 2 rfl) ?_
  obtain ⟨z1, e2, hm⟩ := bd_some hm
  refine ki hw Fr_hi (rV hx hb hml hts hown hK hw (c_X6_fragmentOf l h0 e2) h0 (by decide) rfl (mkV 2 hts k_ml_RX6_38 k_im_yX6_fragmentOf k_se_yX6_fragmentOf k_in_RX6 k_co_yX6_fragmentOf hd_X6_fragmentOf ⟨Nat.le_of_ble_eq_true rfl, Nat.le_of_ble_eq_true rfl⟩) rfl hl.1 rfl (Nat.le_of_ble_eq_true rfl) dX6_source_3 ⟨Nat.le_of_ble_eq_true rfl, Nat.le_of_ble_eq_true rfl⟩) (fun H locs hw => ?_)
  refine lv_istore_n (lv' := [(3, .int z1), (0, .ref (A a0)), (1, .int x1), (2, .int x2)]) hx hb dX6_source_6 rfl hl (by decide) rfl (fun ls hl => ?_)
  refine lv_iconst (v := 0) hx hb dX6_source_7 (by decide) ?_
  refine lv_istore (lv' := [(4, .int 0), (3, .int z1), (0, .ref (A a0)), (1, .int x1), (2, .int x2)]) hx hb dX6_source_8 hl (by decide) rfl (fun ls hl => ?_)
  exact J10 fuel z1 0 hm H locs hw ls (lv_sub hl [2, 3, 4, 1, 0] rfl)
set_option maxHeartbeats 4000000 in
set_option maxRecDepth 100000 in
theorem c_X6_recoverEntry (l : Launch) {D : va_G} {cy : Nat → ClassId} {A : Nat → Nat} {G : Nat → Bool} {M : Mem} {sz : Nat} {a0 : Nat} {x1 : Int32} {x2 : Int32} {x3 : Int32} (h0 : TT G 5 a0)  {z : Mem} (hm : m_X6_recoverEntry a0 x1 x2 x3 M = some z) : Met l yX6_recoverEntry (wm yX6_recoverEntry cX6_recoverEntry 7 none) ({ frames := 3, cells := 0, slots := 0, locals := 69 } : Room) (va_Pc [.ref (A a0), .int x1, .int x2, .int x3] (Pr D cy A G M sz)) (va_Qv (fun (u : Mem) => u = z) (Po D cy A G (Fr A G sz)) (Fr A G sz))  0 0 (Fr A G sz) := by
  refine ofB (Qc := fun sz => va_Qv (fun (u : Mem) => u = z) (Po D cy A G (Fr A G sz)) (Fr A G sz)) (by decide +kernel) (Nat.le_of_ble_eq_true rfl) ?_
  intro p e s m below meth c hx hb hr hts hown hlocks hml hmn hK hw ls hl
  have hl : lv_has ls 7 [(0, .ref (A a0)), (1, .int x1), (2, .int x2), (3, .int x3)] := hl
  have J11 : ∀  (n : Nat) (v4 : Int32) (v5 : Int32) (M : Mem), m_X6_recoverEntry_L11 a0 x1 x2 x3 n v4 v5 M = some z → ∀ (H : Heap) (locs : List Loc), WD D cy (Fr A G s.heap.size) A s.heap G M H locs → ∀ ls : Array Slot, lv_has ls 7 [(0, .ref (A a0)), (1, .int x1), (2, .int x2), (3, .int x3), (4, .int v4), (5, .int v5)] → W p l e (headSpec (wm yX6_recoverEntry cX6_recoverEntry 7 none) ({ frames := 3, cells := 0, slots := 0, locals := 69 } : Room)).room s m ([.ref (A a0), .int x1, .int x2, .int x3] : List Value).toArray below meth c H locs 0 0 (MQ below (va_Qv (fun (u : Mem) => u = z) (Po D cy A G (Fr A G s.heap.size)) (Fr A G s.heap.size)) ([.ref (A a0), .int x1, .int x2, .int x3] : List Value).toArray s 0 0 (Fr A G s.heap.size)) (F0 m 11 ls []) := by
    intro n
    induction n with
    | zero =>
      intro v4 v5 M hm
      cases (show (none : Option Mem) = some z from hm)
    | succ n ih =>
      intro v4 v5 M hm H locs hw ls hl
      have hm := (m_X6_recoverEntry_L11_s a0 x1 x2 x3 n v4 v5 M).symm.trans hm
      refine lv_iload hx hb dX6_recoverEntry_11 (lv_at hl 5 rfl) ?_
      refine lv_aload_n hx hb dX6_recoverEntry_13 rfl (lv_at hl 0 rfl) ?_
      refine lv_iload_n hx hb dX6_recoverEntry_14 rfl (lv_at hl 1 rfl) ?_
      refine lv_iconst (v := 1) hx hb dX6_recoverEntry_15 (by decide) ?_
      obtain ⟨z3, e4, hm⟩ := bd_some hm
      refine ki hw Fr_hi (rV hx hb hml hts hown hK hw (c_X6_of l h0 e4) h0 (by decide) rfl (mkV 2 hts k_ml_RX6_31 k_im_yX6_of k_se_yX6_of k_in_RX6 k_co_yX6_of hd_X6_of ⟨Nat.le_of_ble_eq_true rfl, Nat.le_of_ble_eq_true rfl⟩) rfl hl.1 rfl (Nat.le_of_ble_eq_true rfl) dX6_recoverEntry_16 ⟨Nat.le_of_ble_eq_true rfl, Nat.le_of_ble_eq_true rfl⟩) (fun H locs hw => ?_)
      refine lv_icmp_ge (tgt := 72) hx hb dX6_recoverEntry_19 (by decide) (fun hq5 => ?_) (fun hq5 => ?_)
      · have hm := (if_pos hq5).symm.trans hm
        cases hm
        exact eV hx hb hr hlocks hK hw dX6_recoverEntry_72
      · have hm := (if_neg hq5).symm.trans hm
        refine lv_aload_n hx hb dX6_recoverEntry_22 rfl (lv_at hl 0 rfl) ?_
        refine lv_iload_n hx hb dX6_recoverEntry_23 rfl (lv_at hl 1 rfl) ?_
        refine lv_iload hx hb dX6_recoverEntry_24 (lv_at hl 4 rfl) ?_
        refine lv_iload_n hx hb dX6_recoverEntry_26 rfl (lv_at hl 2 rfl) ?_
        refine lv_iload hx hb dX6_recoverEntry_27 (lv_at hl 5 rfl) ?_
        obtain ⟨z6, e7, hm⟩ := bd_some hm
        refine ki hw Fr_hi (rV hx hb hml hts hown hK hw (c_X6_writer l h0 e7) h0 (by decide) rfl (mkV 4 hts k_ml_RX6_41 k_im_yX6_writer k_se_yX6_writer k_in_RX6 k_co_yX6_writer hd_X6_writer ⟨Nat.le_of_ble_eq_true rfl, Nat.le_of_ble_eq_true rfl⟩) rfl hl.1 rfl (Nat.le_of_ble_eq_true rfl) dX6_recoverEntry_29 ⟨Nat.le_of_ble_eq_true rfl, Nat.le_of_ble_eq_true rfl⟩) (fun H locs hw => ?_)
        refine lv_istore (lv' := [(6, .int z6), (0, .ref (A a0)), (1, .int x1), (2, .int x2), (3, .int x3), (4, .int v4), (5, .int v5)]) hx hb dX6_recoverEntry_32 hl (by decide) rfl (fun ls hl => ?_)
        refine lv_aload_n hx hb dX6_recoverEntry_34 rfl (lv_at hl 1 rfl) ?_
        refine lv_iload hx hb dX6_recoverEntry_35 (lv_at hl 0 rfl) ?_
        obtain ⟨z8, e9, hm⟩ := bd_some hm
        refine ki hw Fr_hi (rV hx hb hml hts hown hK hw (c_X6_isUp l h0 e9) h0 (by decide) rfl (mkV 1 hts k_ml_RX6_45 k_im_yX6_isUp k_se_yX6_isUp k_in_RX6 k_co_yX6_isUp hd_X6_isUp ⟨Nat.le_of_ble_eq_true rfl, Nat.le_of_ble_eq_true rfl⟩) rfl hl.1 rfl (Nat.le_of_ble_eq_true rfl) dX6_recoverEntry_37 ⟨Nat.le_of_ble_eq_true rfl, Nat.le_of_ble_eq_true rfl⟩) (fun H locs hw => ?_)
        refine lv_if_eq (tgt := 66) hx hb dX6_recoverEntry_40 (by decide) (fun hq10 => ?_) (fun hq10 => ?_)
        · have hm := (if_pos hq10).symm.trans hm
          refine lv_iinc (v := (v5 + 1)) (lv' := [(5, .int (v5 + 1)), (6, .int z6), (0, .ref (A a0)), (1, .int x1), (2, .int x2), (3, .int x3), (4, .int v4)]) hx hb dX6_recoverEntry_66 hl (k := 6) rfl rfl (by decide) rfl (fun ls hl => ?_)
          refine lv_goto (tgt := 11) hx hb dX6_recoverEntry_69 (by decide) ?_
          exact ih v4 (v5 + 1) M hm H locs hw ls (lv_sub hl [2, 3, 4, 5, 6, 0] rfl)
        · have hm := (if_neg hq10).symm.trans hm
          refine lv_aload_n hx hb dX6_recoverEntry_43 rfl (lv_at hl 1 rfl) ?_
          refine lv_iload hx hb dX6_recoverEntry_44 (lv_at hl 0 rfl) ?_
          refine lv_iload_n hx hb dX6_recoverEntry_46 rfl (lv_at hl 2 rfl) ?_
          refine lv_iload_n hx hb dX6_recoverEntry_47 rfl (lv_at hl 3 rfl) ?_
          obtain ⟨z11, e12, hm⟩ := bd_some hm
          refine ki hw Fr_hi (rV hx hb hml hts hown hK hw (c_X6_stores l h0 e12) h0 (by decide) rfl (mkV 3 hts k_ml_RX6_112 k_im_yX6_stores k_se_yX6_stores k_in_RX6 k_co_yX6_stores hd_X6_stores ⟨Nat.le_of_ble_eq_true rfl, Nat.le_of_ble_eq_true rfl⟩) rfl hl.1 rfl (Nat.le_of_ble_eq_true rfl) dX6_recoverEntry_48 ⟨Nat.le_of_ble_eq_true rfl, Nat.le_of_ble_eq_true rfl⟩) (fun H locs hw => ?_)
          refine lv_if_ne (tgt := 66) hx hb dX6_recoverEntry_51 (by decide) (fun hq13 => ?_) (fun hq13 => ?_)
          · have hm := (if_neg hq13).symm.trans hm
            refine lv_iinc (v := (v5 + 1)) (lv' := [(5, .int (v5 + 1)), (6, .int z6), (0, .ref (A a0)), (1, .int x1), (2, .int x2), (3, .int x3), (4, .int v4)]) hx hb dX6_recoverEntry_66 hl (k := 6) rfl rfl (by decide) rfl (fun ls hl => ?_)
            refine lv_goto (tgt := 11) hx hb dX6_recoverEntry_69 (by decide) ?_
            exact ih v4 (v5 + 1) M hm H locs hw ls (lv_sub hl [2, 3, 4, 5, 6, 0] rfl)
          · have hm := (if_pos hq13).symm.trans hm
            refine lv_aload_n hx hb dX6_recoverEntry_54 rfl (lv_at hl 1 rfl) ?_
            refine lv_iload hx hb dX6_recoverEntry_55 (lv_at hl 0 rfl) ?_
            refine lv_iload_n hx hb dX6_recoverEntry_57 rfl (lv_at hl 2 rfl) ?_
            refine lv_iload_n hx hb dX6_recoverEntry_58 rfl (lv_at hl 3 rfl) ?_
            refine lv_iload_n hx hb dX6_recoverEntry_59 rfl (lv_at hl 4 rfl) ?_
            refine lv_iload_n hx hb dX6_recoverEntry_60 rfl (lv_at hl 3 rfl) ?_
            refine lv_iconst (v := 1) hx hb dX6_recoverEntry_61 (by decide) ?_
            refine lv_isub hx hb dX6_recoverEntry_62 ?_
            obtain ⟨z14, e15, hm⟩ := bd_some hm
            refine kv hw Fr_hi (rV hx hb hml hts hown hK hw (c_X6_store l h0 e15) h0 (by decide) rfl (mkV 5 hts k_ml_RX6_77 k_im_yX6_store k_se_yX6_store k_in_RX6 k_co_yX6_store hd_X6_store ⟨Nat.le_of_ble_eq_true rfl, Nat.le_of_ble_eq_true rfl⟩) rfl hl.1 rfl (Nat.le_of_ble_eq_true rfl) dX6_recoverEntry_63 ⟨Nat.le_of_ble_eq_true rfl, Nat.le_of_ble_eq_true rfl⟩) (fun H locs hw => ?_)
            refine lv_iinc (v := (v5 + 1)) (lv' := [(5, .int (v5 + 1)), (6, .int z6), (0, .ref (A a0)), (1, .int x1), (2, .int x2), (3, .int x3), (4, .int v4)]) hx hb dX6_recoverEntry_66 hl (k := 6) rfl rfl (by decide) rfl (fun ls hl => ?_)
            refine lv_goto (tgt := 11) hx hb dX6_recoverEntry_69 (by decide) ?_
            exact ih v4 (v5 + 1) z14 hm H locs hw ls (lv_sub hl [2, 3, 4, 5, 6, 0] rfl)
  unfold m_X6_recoverEntry at hm
  revert hw
  suffices K : ∀ (H : Heap) (locs : List Loc), WD D cy (Fr A G s.heap.size) A s.heap G M H locs → W p l e (headSpec (wm yX6_recoverEntry cX6_recoverEntry 7 none) ({ frames := 3, cells := 0, slots := 0, locals := 69 } : Room)).room s m ([.ref (A a0), .int x1, .int x2, .int x3] : List Value).toArray below meth c H locs 0 0 (MQ below (va_Qv (fun (u : Mem) => u = z) (Po D cy A G (Fr A G s.heap.size)) (Fr A G s.heap.size)) ([.ref (A a0), .int x1, .int x2, .int x3] : List Value).toArray s 0 0 (Fr A G s.heap.size)) (F0 m 0 ls []) from fun hw => K _ _ hw
  intro H locs hw
  refine lv_aload_n hx hb dX6_recoverEntry_0 rfl (lv_at hl 0 rfl) ?_
  refine lv_iload_n hx hb dX6_recoverEntry_1 rfl (lv_at hl 1 rfl) ?_
  refine lv_iload_n hx hb dX6_recoverEntry_2 rfl (lv_at hl 2 rfl) ?_
  obtain ⟨z1, e2, hm⟩ := bd_some hm
  refine ki hw Fr_hi (rV hx hb hml hts hown hK hw (c_X6_fragmentOf l h0 e2) h0 (by decide) rfl (mkV 2 hts k_ml_RX6_38 k_im_yX6_fragmentOf k_se_yX6_fragmentOf k_in_RX6 k_co_yX6_fragmentOf hd_X6_fragmentOf ⟨Nat.le_of_ble_eq_true rfl, Nat.le_of_ble_eq_true rfl⟩) rfl hl.1 rfl (Nat.le_of_ble_eq_true rfl) dX6_recoverEntry_3 ⟨Nat.le_of_ble_eq_true rfl, Nat.le_of_ble_eq_true rfl⟩) (fun H locs hw => ?_)
  refine lv_istore (lv' := [(4, .int z1), (0, .ref (A a0)), (1, .int x1), (2, .int x2), (3, .int x3)]) hx hb dX6_recoverEntry_6 hl (by decide) rfl (fun ls hl => ?_)
  refine lv_iconst (v := 0) hx hb dX6_recoverEntry_8 (by decide) ?_
  refine lv_istore (lv' := [(5, .int 0), (4, .int z1), (0, .ref (A a0)), (1, .int x1), (2, .int x2), (3, .int x3)]) hx hb dX6_recoverEntry_9 hl (by decide) rfl (fun ls hl => ?_)
  exact J11 fuel z1 0 M hm H locs hw ls (lv_sub hl [2, 3, 4, 5, 1, 0] rfl)
set_option maxHeartbeats 4000000 in
set_option maxRecDepth 100000 in
theorem c_X6_recover (l : Launch) {D : va_G} {cy : Nat → ClassId} {A : Nat → Nat} {G : Nat → Bool} {M : Mem} {sz : Nat} {a0 : Nat} {x1 : Int32} (h0 : TT G 5 a0)  {z : (Int32 × Mem)} (hm : m_X6_recover a0 x1 M = some z) : Met l yX6_recover (wm yX6_recover cX6_recover 5 (some .int)) ({ frames := 4, cells := 0, slots := 0, locals := 95 } : Room) (va_Pc [.ref (A a0), .int x1] (Pr D cy A G M sz)) (va_Qi (fun (r' : Int32) (u : Mem) => r' = z.1 ∧ u = z.2) (Po D cy A G (Fr A G sz)) (Fr A G sz))  0 0 (Fr A G sz) := by
  refine ofB (Qc := fun sz => va_Qi (fun (r' : Int32) (u : Mem) => r' = z.1 ∧ u = z.2) (Po D cy A G (Fr A G sz)) (Fr A G sz)) (by decide +kernel) (Nat.le_of_ble_eq_true rfl) ?_
  intro p e s m below meth c hx hb hr hts hown hlocks hml hmn hK hw ls hl
  have hl : lv_has ls 5 [(0, .ref (A a0)), (1, .int x1)] := hl
  have J151 : ∀  (n : Nat) (v3 : Int32) (v4 : Int32) (M : Mem), m_X6_recover_L151 a0 x1 n v3 v4 M = some z → ∀ (H : Heap) (locs : List Loc), WD D cy (Fr A G s.heap.size) A s.heap G M H locs → ∀ ls : Array Slot, lv_has ls 5 [(0, .ref (A a0)), (1, .int x1), (3, .int v3), (4, .int v4)] → W p l e (headSpec (wm yX6_recover cX6_recover 5 (some .int)) ({ frames := 4, cells := 0, slots := 0, locals := 95 } : Room)).room s m ([.ref (A a0), .int x1] : List Value).toArray below meth c H locs 0 0 (MQ below (va_Qi (fun (r' : Int32) (u : Mem) => r' = z.1 ∧ u = z.2) (Po D cy A G (Fr A G s.heap.size)) (Fr A G s.heap.size)) ([.ref (A a0), .int x1] : List Value).toArray s 0 0 (Fr A G s.heap.size)) (F0 m 151 ls []) := by
    intro n
    induction n with
    | zero =>
      intro v3 v4 M hm
      cases (show (none : Option (Int32 × Mem)) = some z from hm)
    | succ n ih =>
      intro v3 v4 M hm H locs hw ls hl
      have hm := (m_X6_recover_L151_s a0 x1 n v3 v4 M).symm.trans hm
      refine lv_iload hx hb dX6_recover_151 (lv_at hl 3 rfl) ?_
      refine lv_iconst (v := (-1)) hx hb dX6_recover_153 (by decide) ?_
      refine lv_icmp_eq (tgt := 195) hx hb dX6_recover_154 (by decide) (fun hq22 => ?_) (fun hq22 => ?_)
      · have hm := (if_pos hq22).symm.trans hm
        refine lv_aload_n hx hb dX6_recover_195 rfl (lv_at hl 0 rfl) ?_
        refine lv_iload_n hx hb dX6_recover_196 rfl (lv_at hl 1 rfl) ?_
        refine lv_iconst (v := 3) hx hb dX6_recover_197 (by decide) ?_
        refine lv_iconst (v := 2) hx hb dX6_recover_198 (by decide) ?_
        obtain ⟨z23, e24, hm⟩ := bd_some hm
        refine kv hw Fr_hi (rV hx hb hml hts hown hK hw (c_X6_set l h0 e24) h0 (by decide) rfl (mkV 3 hts k_ml_RX6_84 k_im_yX6_set k_se_yX6_set k_in_RX6 k_co_yX6_set hd_X6_set ⟨Nat.le_of_ble_eq_true rfl, Nat.le_of_ble_eq_true rfl⟩) rfl hl.1 rfl (Nat.le_of_ble_eq_true rfl) dX6_recover_199 ⟨Nat.le_of_ble_eq_true rfl, Nat.le_of_ble_eq_true rfl⟩) (fun H locs hw => ?_)
        refine lv_aload_n hx hb dX6_recover_202 rfl (lv_at hl 0 rfl) ?_
        refine lv_iload_n hx hb dX6_recover_203 rfl (lv_at hl 1 rfl) ?_
        refine lv_iconst (v := 5) hx hb dX6_recover_204 (by decide) ?_
        refine lv_iload_n hx hb dX6_recover_205 rfl (lv_at hl 2 rfl) ?_
        refine lv_iconst (v := 1) hx hb dX6_recover_206 (by decide) ?_
        refine lv_isub hx hb dX6_recover_207 ?_
        obtain ⟨z25, e26, hm⟩ := bd_some hm
        refine kv hw Fr_hi (rV hx hb hml hts hown hK hw (c_X6_set l h0 e26) h0 (by decide) rfl (mkV 3 hts k_ml_RX6_84 k_im_yX6_set k_se_yX6_set k_in_RX6 k_co_yX6_set hd_X6_set ⟨Nat.le_of_ble_eq_true rfl, Nat.le_of_ble_eq_true rfl⟩) rfl hl.1 rfl (Nat.le_of_ble_eq_true rfl) dX6_recover_208 ⟨Nat.le_of_ble_eq_true rfl, Nat.le_of_ble_eq_true rfl⟩) (fun H locs hw => ?_)
        refine lv_iload_n hx hb dX6_recover_211 rfl (lv_at hl 2 rfl) ?_
        refine lv_iconst (v := 1) hx hb dX6_recover_212 (by decide) ?_
        refine lv_isub hx hb dX6_recover_213 ?_
        cases hm
        exact eI hx hb hr hlocks hK hw dX6_recover_214
      · have hm := (if_neg hq22).symm.trans hm
        refine lv_aload_n hx hb dX6_recover_157 rfl (lv_at hl 0 rfl) ?_
        refine lv_iload_n hx hb dX6_recover_158 rfl (lv_at hl 1 rfl) ?_
        refine lv_iload_n hx hb dX6_recover_159 rfl (lv_at hl 2 rfl) ?_
        refine lv_aload_n hx hb dX6_recover_160 rfl (lv_at hl 0 rfl) ?_
        refine lv_iload hx hb dX6_recover_161 (lv_at hl 3 rfl) ?_
        refine lv_iload_n hx hb dX6_recover_163 rfl (lv_at hl 1 rfl) ?_
        refine lv_iload_n hx hb dX6_recover_164 rfl (lv_at hl 2 rfl) ?_
        obtain ⟨z27, e28, hm⟩ := bd_some hm
        refine ki hw Fr_hi (rV hx hb hml hts hown hK hw (c_X6_payloadAt l h0 e28) h0 (by decide) rfl (mkV 3 hts k_ml_RX6_127 k_im_yX6_payloadAt k_se_yX6_payloadAt k_in_RX6 k_co_yX6_payloadAt hd_X6_payloadAt ⟨Nat.le_of_ble_eq_true rfl, Nat.le_of_ble_eq_true rfl⟩) rfl hl.1 rfl (Nat.le_of_ble_eq_true rfl) dX6_recover_165 ⟨Nat.le_of_ble_eq_true rfl, Nat.le_of_ble_eq_true rfl⟩) (fun H locs hw => ?_)
        obtain ⟨z29, e30, hm⟩ := bd_some hm
        refine kv hw Fr_hi (rV hx hb hml hts hown hK hw (c_X6_recoverEntry l h0 e30) h0 (by decide) rfl (mkV 3 hts k_ml_RX6_130 k_im_yX6_recoverEntry k_se_yX6_recoverEntry k_in_RX6 k_co_yX6_recoverEntry hd_X6_recoverEntry ⟨Nat.le_of_ble_eq_true rfl, Nat.le_of_ble_eq_true rfl⟩) rfl hl.1 rfl (Nat.le_of_ble_eq_true rfl) dX6_recover_168 ⟨Nat.le_of_ble_eq_true rfl, Nat.le_of_ble_eq_true rfl⟩) (fun H locs hw => ?_)
        refine lv_iinc (v := (v3 + 1)) (lv' := [(3, .int (v3 + 1)), (0, .ref (A a0)), (1, .int x1), (4, .int v4)]) hx hb dX6_recover_171 hl (k := 2) rfl rfl (by decide) rfl (fun ls hl => ?_)
        refine lv_iload_n hx hb dX6_recover_174 rfl (lv_at hl 0 rfl) ?_
        refine lv_bipush (v := 40) hx hb dX6_recover_175 (by decide) ?_
        refine lv_icmp_ge (tgt := 189) hx hb dX6_recover_177 (by decide) (fun hq31 => ?_) (fun hq31 => ?_)
        · have hm := (if_pos hq31).symm.trans hm
          refine lv_iconst (v := (-1)) hx hb dX6_recover_189 (by decide) ?_
          refine lv_istore (lv' := [(4, .int (-1)), (3, .int (v3 + 1)), (0, .ref (A a0)), (1, .int x1)]) hx hb dX6_recover_190 hl (by decide) rfl (fun ls hl => ?_)
          refine lv_goto (tgt := 151) hx hb dX6_recover_192 (by decide) ?_
          exact ih (v3 + 1) (-1) z29 hm H locs hw ls (lv_sub hl [2, 3, 1, 0] rfl)
        · have hm := (if_neg hq31).symm.trans hm
          refine lv_aload_n hx hb dX6_recover_180 rfl (lv_at hl 1 rfl) ?_
          refine lv_iload_n hx hb dX6_recover_181 rfl (lv_at hl 2 rfl) ?_
          refine lv_iload_n hx hb dX6_recover_182 rfl (lv_at hl 0 rfl) ?_
          obtain ⟨z32, e33, hm⟩ := bd_some hm
          refine ki hw Fr_hi (rV hx hb hml hts hown hK hw (c_X6_source l h0 e33) h0 (by decide) rfl (mkV 2 hts k_ml_RX6_124 k_im_yX6_source k_se_yX6_source k_in_RX6 k_co_yX6_source hd_X6_source ⟨Nat.le_of_ble_eq_true rfl, Nat.le_of_ble_eq_true rfl⟩) rfl hl.1 rfl (Nat.le_of_ble_eq_true rfl) dX6_recover_183 ⟨Nat.le_of_ble_eq_true rfl, Nat.le_of_ble_eq_true rfl⟩) (fun H locs hw => ?_)
          refine lv_goto (tgt := 190) hx hb dX6_recover_186 (by decide) ?_
          refine lv_istore (lv' := [(4, .int z32), (3, .int (v3 + 1)), (0, .ref (A a0)), (1, .int x1)]) hx hb dX6_recover_190 hl (by decide) rfl (fun ls hl => ?_)
          refine lv_goto (tgt := 151) hx hb dX6_recover_192 (by decide) ?_
          exact ih (v3 + 1) z32 z29 hm H locs hw ls (lv_sub hl [2, 3, 1, 0] rfl)
  have J60 : ∀  (n : Nat) (v2 : Int32) (v3 : Int32) (M : Mem), m_X6_recover_L60 a0 x1 n v2 v3 M = some z → ∀ (H : Heap) (locs : List Loc), WD D cy (Fr A G s.heap.size) A s.heap G M H locs → ∀ ls : Array Slot, lv_has ls 5 [(0, .ref (A a0)), (1, .int x1), (2, .int v2), (3, .int v3)] → W p l e (headSpec (wm yX6_recover cX6_recover 5 (some .int)) ({ frames := 4, cells := 0, slots := 0, locals := 95 } : Room)).room s m ([.ref (A a0), .int x1] : List Value).toArray below meth c H locs 0 0 (MQ below (va_Qi (fun (r' : Int32) (u : Mem) => r' = z.1 ∧ u = z.2) (Po D cy A G (Fr A G s.heap.size)) (Fr A G s.heap.size)) ([.ref (A a0), .int x1] : List Value).toArray s 0 0 (Fr A G s.heap.size)) (F0 m 60 ls []) := by
    intro n
    induction n with
    | zero =>
      intro v2 v3 M hm
      cases (show (none : Option (Int32 × Mem)) = some z from hm)
    | succ n ih =>
      intro v2 v3 M hm H locs hw ls hl
      have hm := (m_X6_recover_L60_s a0 x1 n v2 v3 M).symm.trans hm
      refine lv_iload_n hx hb dX6_recover_60 rfl (lv_at hl 3 rfl) ?_
      refine lv_aload_n hx hb dX6_recover_61 rfl (lv_at hl 0 rfl) ?_
      refine lv_iload_n hx hb dX6_recover_62 rfl (lv_at hl 1 rfl) ?_
      refine lv_iconst (v := 0) hx hb dX6_recover_63 (by decide) ?_
      obtain ⟨z13, e14, hm⟩ := bd_some hm
      refine ki hw Fr_hi (rV hx hb hml hts hown hK hw (c_X6_of l h0 e14) h0 (by decide) rfl (mkV 2 hts k_ml_RX6_31 k_im_yX6_of k_se_yX6_of k_in_RX6 k_co_yX6_of hd_X6_of ⟨Nat.le_of_ble_eq_true rfl, Nat.le_of_ble_eq_true rfl⟩) rfl hl.1 rfl (Nat.le_of_ble_eq_true rfl) dX6_recover_64 ⟨Nat.le_of_ble_eq_true rfl, Nat.le_of_ble_eq_true rfl⟩) (fun H locs hw => ?_)
      refine lv_icmp_ge (tgt := 112) hx hb dX6_recover_67 (by decide) (fun hq15 => ?_) (fun hq15 => ?_)
      · have hm := (if_pos hq15).symm.trans hm
        refine lv_aload_n hx hb dX6_recover_112 rfl (lv_at hl 0 rfl) ?_
        refine lv_iload_n hx hb dX6_recover_113 rfl (lv_at hl 1 rfl) ?_
        refine lv_iload_n hx hb dX6_recover_114 rfl (lv_at hl 2 rfl) ?_
        obtain ⟨z16, e17, hm⟩ := bd_some hm
        refine ki hw Fr_hi (rV hx hb hml hts hown hK hw (c_X6_isUndecided l h0 e17) h0 (by decide) rfl (mkV 2 hts k_ml_RX6_118 k_im_yX6_isUndecided k_se_yX6_isUndecided k_in_RX6 k_co_yX6_isUndecided hd_X6_isUndecided ⟨Nat.le_of_ble_eq_true rfl, Nat.le_of_ble_eq_true rfl⟩) rfl hl.1 rfl (Nat.le_of_ble_eq_true rfl) dX6_recover_115 ⟨Nat.le_of_ble_eq_true rfl, Nat.le_of_ble_eq_true rfl⟩) (fun H locs hw => ?_)
        refine lv_if_eq (tgt := 124) hx hb dX6_recover_118 (by decide) (fun hq18 => ?_) (fun hq18 => ?_)
        · have hm := (if_pos hq18).symm.trans hm
          refine lv_aload_n hx hb dX6_recover_124 rfl (lv_at hl 0 rfl) ?_
          refine lv_iload_n hx hb dX6_recover_125 rfl (lv_at hl 1 rfl) ?_
          refine lv_iload_n hx hb dX6_recover_126 rfl (lv_at hl 2 rfl) ?_
          obtain ⟨z19, e20, hm⟩ := bd_some hm
          refine ki hw Fr_hi (rV hx hb hml hts hown hK hw (c_X6_storedConfirmed l h0 e20) h0 (by decide) rfl (mkV 2 hts k_ml_RX6_121 k_im_yX6_storedConfirmed k_se_yX6_storedConfirmed k_in_RX6 k_co_yX6_storedConfirmed hd_X6_storedConfirmed ⟨Nat.le_of_ble_eq_true rfl, Nat.le_of_ble_eq_true rfl⟩) rfl hl.1 rfl (Nat.le_of_ble_eq_true rfl) dX6_recover_127 ⟨Nat.le_of_ble_eq_true rfl, Nat.le_of_ble_eq_true rfl⟩) (fun H locs hw => ?_)
          refine lv_iconst (v := 1) hx hb dX6_recover_130 (by decide) ?_
          refine lv_iadd hx hb dX6_recover_131 ?_
          refine lv_istore_n (lv' := [(3, .int (z19 + 1)), (0, .ref (A a0)), (1, .int x1), (2, .int v2)]) hx hb dX6_recover_132 rfl hl (by decide) rfl (fun ls hl => ?_)
          refine lv_iload_n hx hb dX6_recover_133 rfl (lv_at hl 0 rfl) ?_
          refine lv_bipush (v := 40) hx hb dX6_recover_134 (by decide) ?_
          refine lv_icmp_ge (tgt := 148) hx hb dX6_recover_136 (by decide) (fun hq21 => ?_) (fun hq21 => ?_)
          · have hm := (if_pos hq21).symm.trans hm
            refine lv_iconst (v := (-1)) hx hb dX6_recover_148 (by decide) ?_
            refine lv_istore (lv' := [(4, .int (-1)), (3, .int (z19 + 1)), (0, .ref (A a0)), (1, .int x1), (2, .int v2)]) hx hb dX6_recover_149 hl (by decide) rfl (fun ls hl => ?_)
            exact J151 fuel (z19 + 1) (-1) M hm H locs hw ls (lv_sub hl [2, 3, 1, 0] rfl)
          · have hm := (if_neg hq21).symm.trans hm
            refine lv_aload_n hx hb dX6_recover_139 rfl (lv_at hl 1 rfl) ?_
            refine lv_iload_n hx hb dX6_recover_140 rfl (lv_at hl 2 rfl) ?_
            refine lv_iload_n hx hb dX6_recover_141 rfl (lv_at hl 0 rfl) ?_
            obtain ⟨z34, e35, hm⟩ := bd_some hm
            refine ki hw Fr_hi (rV hx hb hml hts hown hK hw (c_X6_source l h0 e35) h0 (by decide) rfl (mkV 2 hts k_ml_RX6_124 k_im_yX6_source k_se_yX6_source k_in_RX6 k_co_yX6_source hd_X6_source ⟨Nat.le_of_ble_eq_true rfl, Nat.le_of_ble_eq_true rfl⟩) rfl hl.1 rfl (Nat.le_of_ble_eq_true rfl) dX6_recover_142 ⟨Nat.le_of_ble_eq_true rfl, Nat.le_of_ble_eq_true rfl⟩) (fun H locs hw => ?_)
            refine lv_goto (tgt := 149) hx hb dX6_recover_145 (by decide) ?_
            refine lv_istore (lv' := [(4, .int z34), (3, .int (z19 + 1)), (0, .ref (A a0)), (1, .int x1), (2, .int v2)]) hx hb dX6_recover_149 hl (by decide) rfl (fun ls hl => ?_)
            exact J151 fuel (z19 + 1) z34 M hm H locs hw ls (lv_sub hl [2, 3, 1, 0] rfl)
        · have hm := (if_neg hq18).symm.trans hm
          refine lv_bipush (v := (-2)) hx hb dX6_recover_121 (by decide) ?_
          cases hm
          exact eI hx hb hr hlocks hK hw dX6_recover_123
      · have hm := (if_neg hq15).symm.trans hm
        refine lv_aload_n hx hb dX6_recover_70 rfl (lv_at hl 0 rfl) ?_
        refine lv_iload_n hx hb dX6_recover_71 rfl (lv_at hl 1 rfl) ?_
        refine lv_iload_n hx hb dX6_recover_72 rfl (lv_at hl 2 rfl) ?_
        refine lv_iload_n hx hb dX6_recover_73 rfl (lv_at hl 3 rfl) ?_
        obtain ⟨z36, e37, hm⟩ := bd_some hm
        refine ki hw Fr_hi (rV hx hb hml hts hown hK hw (c_X6_memberOf l h0 e37) h0 (by decide) rfl (mkV 3 hts k_ml_RX6_35 k_im_yX6_memberOf k_se_yX6_memberOf k_in_RX6 k_co_yX6_memberOf hd_X6_memberOf ⟨Nat.le_of_ble_eq_true rfl, Nat.le_of_ble_eq_true rfl⟩) rfl hl.1 rfl (Nat.le_of_ble_eq_true rfl) dX6_recover_74 ⟨Nat.le_of_ble_eq_true rfl, Nat.le_of_ble_eq_true rfl⟩) (fun H locs hw => ?_)
        refine lv_istore (lv' := [(4, .int z36), (0, .ref (A a0)), (1, .int x1), (2, .int v2), (3, .int v3)]) hx hb dX6_recover_77 hl (by decide) rfl (fun ls hl => ?_)
        refine lv_aload_n hx hb dX6_recover_79 rfl (lv_at hl 1 rfl) ?_
        refine g5 hx hb hts hown hK hw h0 0 (by decide) (.ref (A 4)) rfl k_fl_RX6_7 (fun _ h => h) dX6_recover_80 ?_
        have hp38 := mo_s h0
        refine lv_sipush (v := 2099) hx hb dX6_recover_83 (by decide) ?_
        refine lv_iconst (v := 4) hx hb dX6_recover_86 (by decide) ?_
        refine lv_iload hx hb dX6_recover_87 (lv_at hl 0 rfl) ?_
        refine lv_imul hx hb dX6_recover_89 ?_
        refine lv_iadd hx hb dX6_recover_90 ?_
        refine lv_iload_n hx hb dX6_recover_91 rfl (lv_at hl 2 rfl) ?_
        refine lv_iadd hx hb dX6_recover_92 ?_
        refine lv_dup2_11 hx hb dX6_recover_93 rfl rfl ?_
        obtain ⟨hi39, hm⟩ := ck_some hm
        refine gI hx hb hK hw hp38 hi39 dX6_recover_94 ?_
        refine lv_aload_n hx hb dX6_recover_95 rfl (lv_at hl 1 rfl) ?_
        refine g5 hx hb hts hown hK hw h0 0 (by decide) (.ref (A 4)) rfl k_fl_RX6_7 (fun _ h => h) dX6_recover_96 ?_
        have hp40 := mo_s h0
        refine lv_iconst (v := 3) hx hb dX6_recover_99 (by decide) ?_
        refine lv_iload hx hb dX6_recover_100 (lv_at hl 0 rfl) ?_
        refine lv_iadd hx hb dX6_recover_102 ?_
        obtain ⟨hi41, hm⟩ := ck_some hm
        refine gI hx hb hK hw hp40 hi41 dX6_recover_103 ?_
        refine lv_ior hx hb dX6_recover_104 ?_
        obtain ⟨hi42, hm⟩ := ck_some hm
        refine pI hx hb hK hw hp38 hi42 dX6_recover_105 (fun H locs hw => ?_)
        refine lv_iinc (v := (v3 + 1)) (lv' := [(3, .int (v3 + 1)), (4, .int z36), (0, .ref (A a0)), (1, .int x1), (2, .int v2)]) hx hb dX6_recover_106 hl (k := 4) rfl rfl (by decide) rfl (fun ls hl => ?_)
        refine lv_goto (tgt := 60) hx hb dX6_recover_109 (by decide) ?_
        exact ih v2 (v3 + 1) (aI 4 ((2099 + (4 * z36)) + x1) ((gR M 4 (cl ((2099 + (4 * z36)) + x1))) ||| (gR M 4 (cl (3 + z36)))) M) hm H locs hw ls (lv_sub hl [2, 3, 4, 0] rfl)
  have J29 : ∀  (u0 : Nat) (u1 : Int32) (u2 : Int32) (M : Mem) (hu0 : TT G 5 u0), m_X6_recover_b29 a0 x1 u0 u1 u2 M = some z → ∀ (H : Heap) (locs : List Loc), WD D cy (Fr A G s.heap.size) A s.heap G M H locs → ∀ ls : Array Slot, lv_has ls 5 [(0, .ref (A a0)), (1, .int x1)] → W p l e (headSpec (wm yX6_recover cX6_recover 5 (some .int)) ({ frames := 4, cells := 0, slots := 0, locals := 95 } : Room)).room s m ([.ref (A a0), .int x1] : List Value).toArray below meth c H locs 0 0 (MQ below (va_Qi (fun (r' : Int32) (u : Mem) => r' = z.1 ∧ u = z.2) (Po D cy A G (Fr A G s.heap.size)) (Fr A G s.heap.size)) ([.ref (A a0), .int x1] : List Value).toArray s 0 0 (Fr A G s.heap.size)) (F0 m 29 ls [.int u2, .int u1, .ref (A u0)]) := by
    intro u0 u1 u2 M hu0 hm H locs hw ls hl
    unfold m_X6_recover_b29 at hm
    refine ki hw Fr_hi (rV hx hb hml hts hown hK hw (c_X6_isFine l hu0 u1 u2) hu0 (by decide) rfl (mkV 2 hts k_ml_RX6_69 k_im_yX6_isFine k_se_yX6_isFine k_in_RX6 k_co_yX6_isFine hd_X6_isFine ⟨Nat.le_of_ble_eq_true rfl, Nat.le_of_ble_eq_true rfl⟩) rfl hl.1 rfl (Nat.le_of_ble_eq_true rfl) dX6_recover_29 ⟨Nat.le_of_ble_eq_true rfl, Nat.le_of_ble_eq_true rfl⟩) (fun H locs hw => ?_)
    refine lv_if_ne (tgt := 37) hx hb dX6_recover_32 (by decide) (fun hq6 => ?_) (fun hq6 => ?_)
    · have hm := (if_neg hq6).symm.trans hm
      refine lv_aload_n hx hb dX6_recover_37 rfl (lv_at hl 0 rfl) ?_
      obtain ⟨z7, e8, hm⟩ := bd_some hm
      refine kv hw Fr_hi (rV hx hb hml hts hown hK hw (c_X6_note l h0 e8) h0 (by decide) rfl (mkV 0 hts k_ml_RX6_63 k_im_yX6_note k_se_yX6_note k_in_RX6 k_co_yX6_note hd_X6_note ⟨Nat.le_of_ble_eq_true rfl, Nat.le_of_ble_eq_true rfl⟩) rfl hl.1 rfl (Nat.le_of_ble_eq_true rfl) dX6_recover_38 ⟨Nat.le_of_ble_eq_true rfl, Nat.le_of_ble_eq_true rfl⟩) (fun H locs hw => ?_)
      refine lv_aload_n hx hb dX6_recover_41 rfl (lv_at hl 0 rfl) ?_
      refine lv_iload_n hx hb dX6_recover_42 rfl (lv_at hl 1 rfl) ?_
      refine lv_iconst (v := 3) hx hb dX6_recover_43 (by decide) ?_
      refine lv_iconst (v := 1) hx hb dX6_recover_44 (by decide) ?_
      obtain ⟨z9, e10, hm⟩ := bd_some hm
      refine kv hw Fr_hi (rV hx hb hml hts hown hK hw (c_X6_set l h0 e10) h0 (by decide) rfl (mkV 3 hts k_ml_RX6_84 k_im_yX6_set k_se_yX6_set k_in_RX6 k_co_yX6_set hd_X6_set ⟨Nat.le_of_ble_eq_true rfl, Nat.le_of_ble_eq_true rfl⟩) rfl hl.1 rfl (Nat.le_of_ble_eq_true rfl) dX6_recover_45 ⟨Nat.le_of_ble_eq_true rfl, Nat.le_of_ble_eq_true rfl⟩) (fun H locs hw => ?_)
      refine lv_aload_n hx hb dX6_recover_48 rfl (lv_at hl 0 rfl) ?_
      refine lv_iload_n hx hb dX6_recover_49 rfl (lv_at hl 1 rfl) ?_
      refine lv_bipush (v := 6) hx hb dX6_recover_50 (by decide) ?_
      obtain ⟨z11, e12, hm⟩ := bd_some hm
      refine ki hw Fr_hi (rV hx hb hml hts hown hK hw (c_X6_of l h0 e12) h0 (by decide) rfl (mkV 2 hts k_ml_RX6_31 k_im_yX6_of k_se_yX6_of k_in_RX6 k_co_yX6_of hd_X6_of ⟨Nat.le_of_ble_eq_true rfl, Nat.le_of_ble_eq_true rfl⟩) rfl hl.1 rfl (Nat.le_of_ble_eq_true rfl) dX6_recover_52 ⟨Nat.le_of_ble_eq_true rfl, Nat.le_of_ble_eq_true rfl⟩) (fun H locs hw => ?_)
      refine lv_iconst (v := 1) hx hb dX6_recover_55 (by decide) ?_
      refine lv_isub hx hb dX6_recover_56 ?_
      refine lv_istore_n (lv' := [(2, .int (z11 - 1)), (0, .ref (A a0)), (1, .int x1)]) hx hb dX6_recover_57 rfl hl (by decide) rfl (fun ls hl => ?_)
      refine lv_iconst (v := 0) hx hb dX6_recover_58 (by decide) ?_
      refine lv_istore_n (lv' := [(3, .int 0), (2, .int (z11 - 1)), (0, .ref (A a0)), (1, .int x1)]) hx hb dX6_recover_59 rfl hl (by decide) rfl (fun ls hl => ?_)
      exact J60 fuel (z11 - 1) 0 z9 hm H locs hw ls (lv_sub hl [2, 3, 1, 0] rfl)
    · have hm := (if_pos hq6).symm.trans hm
      refine lv_iconst (v := 0) hx hb dX6_recover_35 (by decide) ?_
      cases hm
      exact eI hx hb hr hlocks hK hw dX6_recover_36
  unfold m_X6_recover at hm
  revert hw
  suffices K : ∀ (H : Heap) (locs : List Loc), WD D cy (Fr A G s.heap.size) A s.heap G M H locs → W p l e (headSpec (wm yX6_recover cX6_recover 5 (some .int)) ({ frames := 4, cells := 0, slots := 0, locals := 95 } : Room)).room s m ([.ref (A a0), .int x1] : List Value).toArray below meth c H locs 0 0 (MQ below (va_Qi (fun (r' : Int32) (u : Mem) => r' = z.1 ∧ u = z.2) (Po D cy A G (Fr A G s.heap.size)) (Fr A G s.heap.size)) ([.ref (A a0), .int x1] : List Value).toArray s 0 0 (Fr A G s.heap.size)) (F0 m 0 ls []) from fun hw => K _ _ hw
  intro H locs hw
  refine lv_aload_n hx hb dX6_recover_0 rfl (lv_at hl 0 rfl) ?_
  refine lv_aload_n hx hb dX6_recover_1 rfl (lv_at hl 0 rfl) ?_
  refine lv_iload_n hx hb dX6_recover_2 rfl (lv_at hl 1 rfl) ?_
  obtain ⟨z1, e2, hm⟩ := bd_some hm
  refine ki hw Fr_hi (rV hx hb hml hts hown hK hw (c_X6_isLedger l h0 e2) h0 (by decide) rfl (mkV 1 hts k_ml_RX6_95 k_im_yX6_isLedger k_se_yX6_isLedger k_in_RX6 k_co_yX6_isLedger hd_X6_isLedger ⟨Nat.le_of_ble_eq_true rfl, Nat.le_of_ble_eq_true rfl⟩) rfl hl.1 rfl (Nat.le_of_ble_eq_true rfl) dX6_recover_3 ⟨Nat.le_of_ble_eq_true rfl, Nat.le_of_ble_eq_true rfl⟩) (fun H locs hw => ?_)
  refine lv_aload_n hx hb dX6_recover_6 rfl (lv_at hl 0 rfl) ?_
  refine lv_iload_n hx hb dX6_recover_7 rfl (lv_at hl 1 rfl) ?_
  obtain ⟨z3, e4, hm⟩ := bd_some hm
  refine ki hw Fr_hi (rV hx hb hml hts hown hK hw (c_X6_isLedger l h0 e4) h0 (by decide) rfl (mkV 1 hts k_ml_RX6_95 k_im_yX6_isLedger k_se_yX6_isLedger k_in_RX6 k_co_yX6_isLedger hd_X6_isLedger ⟨Nat.le_of_ble_eq_true rfl, Nat.le_of_ble_eq_true rfl⟩) rfl hl.1 rfl (Nat.le_of_ble_eq_true rfl) dX6_recover_8 ⟨Nat.le_of_ble_eq_true rfl, Nat.le_of_ble_eq_true rfl⟩) (fun H locs hw => ?_)
  refine lv_if_eq (tgt := 28) hx hb dX6_recover_11 (by decide) (fun hq5 => ?_) (fun hq5 => ?_)
  · have hm := (if_pos hq5).symm.trans hm
    refine lv_iconst (v := 0) hx hb dX6_recover_28 (by decide) ?_
    exact J29 a0 z1 0 M h0 hm H locs hw ls hl
  · have hm := (if_neg hq5).symm.trans hm
    refine lv_aload_n hx hb dX6_recover_14 rfl (lv_at hl 0 rfl) ?_
    refine lv_iload_n hx hb dX6_recover_15 rfl (lv_at hl 1 rfl) ?_
    refine lv_iconst (v := 3) hx hb dX6_recover_16 (by decide) ?_
    obtain ⟨z43, e44, hm⟩ := bd_some hm
    refine ki hw Fr_hi (rV hx hb hml hts hown hK hw (c_X6_of l h0 e44) h0 (by decide) rfl (mkV 2 hts k_ml_RX6_31 k_im_yX6_of k_se_yX6_of k_in_RX6 k_co_yX6_of hd_X6_of ⟨Nat.le_of_ble_eq_true rfl, Nat.le_of_ble_eq_true rfl⟩) rfl hl.1 rfl (Nat.le_of_ble_eq_true rfl) dX6_recover_17 ⟨Nat.le_of_ble_eq_true rfl, Nat.le_of_ble_eq_true rfl⟩) (fun H locs hw => ?_)
    refine lv_iconst (v := 2) hx hb dX6_recover_20 (by decide) ?_
    refine lv_icmp_eq (tgt := 28) hx hb dX6_recover_21 (by decide) (fun hq45 => ?_) (fun hq45 => ?_)
    · have hm := (if_pos hq45).symm.trans hm
      refine lv_iconst (v := 0) hx hb dX6_recover_28 (by decide) ?_
      exact J29 a0 z1 0 M h0 hm H locs hw ls hl
    · have hm := (if_neg hq45).symm.trans hm
      refine lv_iconst (v := 1) hx hb dX6_recover_24 (by decide) ?_
      refine lv_goto (tgt := 29) hx hb dX6_recover_25 (by decide) ?_
      exact J29 a0 z1 1 M h0 hm H locs hw ls hl
set_option maxHeartbeats 4000000 in
set_option maxRecDepth 100000 in
theorem c_X6_replaceDowns (l : Launch) {D : va_G} {cy : Nat → ClassId} {A : Nat → Nat} {G : Nat → Bool} {M : Mem} {sz : Nat} {a0 : Nat} {x1 : Int32} (h0 : TT G 5 a0)  {z : Mem} (hm : m_X6_replaceDowns a0 x1 M = some z) : Met l yX6_replaceDowns (wm yX6_replaceDowns cX6_replaceDowns 5 none) ({ frames := 3, cells := 0, slots := 0, locals := 69 } : Room) (va_Pc [.ref (A a0), .int x1] (Pr D cy A G M sz)) (va_Qv (fun (u : Mem) => u = z) (Po D cy A G (Fr A G sz)) (Fr A G sz))  0 0 (Fr A G sz) := by
  refine ofB (Qc := fun sz => va_Qv (fun (u : Mem) => u = z) (Po D cy A G (Fr A G sz)) (Fr A G sz)) (by decide +kernel) (Nat.le_of_ble_eq_true rfl) ?_
  intro p e s m below meth c hx hb hr hts hown hlocks hml hmn hK hw ls hl
  have hl : lv_has ls 5 [(0, .ref (A a0)), (1, .int x1)] := hl
  have J53 : ∀ (k2 : Int32 → Mem → Option Mem) (jk2 : ∀ (v2 : Int32) (M : Mem), k2 v2 M = some z → ∀ (H : Heap) (locs : List Loc), WD D cy (Fr A G s.heap.size) A s.heap G M H locs → ∀ ls : Array Slot, lv_has ls 5 [(0, .ref (A a0)), (1, .int x1), (2, .int v2)] → W p l e (headSpec (wm yX6_replaceDowns cX6_replaceDowns 5 none) ({ frames := 3, cells := 0, slots := 0, locals := 69 } : Room)).room s m ([.ref (A a0), .int x1] : List Value).toArray below meth c H locs 0 0 (MQ below (va_Qv (fun (u : Mem) => u = z) (Po D cy A G (Fr A G s.heap.size)) (Fr A G s.heap.size)) ([.ref (A a0), .int x1] : List Value).toArray s 0 0 (Fr A G s.heap.size)) (F0 m 2 ls [])) (k15 : Int32 → Int32 → Mem → Option Mem) (jk15 : ∀ (v2 : Int32) (v3 : Int32) (M : Mem), k15 v2 v3 M = some z → ∀ (H : Heap) (locs : List Loc), WD D cy (Fr A G s.heap.size) A s.heap G M H locs → ∀ ls : Array Slot, lv_has ls 5 [(0, .ref (A a0)), (1, .int x1), (2, .int v2), (3, .int v3)] → W p l e (headSpec (wm yX6_replaceDowns cX6_replaceDowns 5 none) ({ frames := 3, cells := 0, slots := 0, locals := 69 } : Room)).room s m ([.ref (A a0), .int x1] : List Value).toArray below meth c H locs 0 0 (MQ below (va_Qv (fun (u : Mem) => u = z) (Po D cy A G (Fr A G s.heap.size)) (Fr A G s.heap.size)) ([.ref (A a0), .int x1] : List Value).toArray s 0 0 (Fr A G s.heap.size)) (F0 m 15 ls [])) (v2 : Int32) (v3 : Int32) (u0 : Int32) (M : Mem), m_X6_replaceDowns_b53 a0 x1 k2 k15 v2 v3 u0 M = some z → ∀ (H : Heap) (locs : List Loc), WD D cy (Fr A G s.heap.size) A s.heap G M H locs → ∀ ls : Array Slot, lv_has ls 5 [(0, .ref (A a0)), (1, .int x1), (2, .int v2), (3, .int v3)] → W p l e (headSpec (wm yX6_replaceDowns cX6_replaceDowns 5 none) ({ frames := 3, cells := 0, slots := 0, locals := 69 } : Room)).room s m ([.ref (A a0), .int x1] : List Value).toArray below meth c H locs 0 0 (MQ below (va_Qv (fun (u : Mem) => u = z) (Po D cy A G (Fr A G s.heap.size)) (Fr A G s.heap.size)) ([.ref (A a0), .int x1] : List Value).toArray s 0 0 (Fr A G s.heap.size)) (F0 m 53 ls [.int u0]) := by
    intro k2 jk2 k15 jk15 v2 v3 u0 M hm H locs hw ls hl
    unfold m_X6_replaceDowns_b53 at hm
    refine lv_istore (lv' := [(4, .int u0), (0, .ref (A a0)), (1, .int x1), (2, .int v2), (3, .int v3)]) hx hb dX6_replaceDowns_53 hl (by decide) rfl (fun ls hl => ?_)
    refine lv_iload hx hb dX6_replaceDowns_55 (lv_at hl 0 rfl) ?_
    refine lv_iconst (v := (-1)) hx hb dX6_replaceDowns_57 (by decide) ?_
    refine lv_icmp_eq (tgt := 77) hx hb dX6_replaceDowns_58 (by decide) (fun hq16 => ?_) (fun hq16 => ?_)
    · have hm := (if_pos hq16).symm.trans hm
      refine lv_iinc (v := (v3 + 1)) (lv' := [(3, .int (v3 + 1)), (4, .int u0), (0, .ref (A a0)), (1, .int x1), (2, .int v2)]) hx hb dX6_replaceDowns_77 hl (k := 4) rfl rfl (by decide) rfl (fun ls hl => ?_)
      refine lv_goto (tgt := 15) hx hb dX6_replaceDowns_80 (by decide) ?_
      exact jk15 v2 (v3 + 1) M hm H locs hw ls (lv_sub hl [2, 3, 4, 0] rfl)
    · have hm := (if_neg hq16).symm.trans hm
      refine lv_aload_n hx hb dX6_replaceDowns_61 rfl (lv_at hl 1 rfl) ?_
      refine lv_iload_n hx hb dX6_replaceDowns_62 rfl (lv_at hl 2 rfl) ?_
      refine lv_sipush (v := 128) hx hb dX6_replaceDowns_63 (by decide) ?_
      refine lv_iconst (v := 5) hx hb dX6_replaceDowns_66 (by decide) ?_
      refine lv_iload_n hx hb dX6_replaceDowns_67 rfl (lv_at hl 3 rfl) ?_
      refine lv_imul hx hb dX6_replaceDowns_68 ?_
      refine lv_iadd hx hb dX6_replaceDowns_69 ?_
      refine lv_iload_n hx hb dX6_replaceDowns_70 rfl (lv_at hl 4 rfl) ?_
      refine lv_iadd hx hb dX6_replaceDowns_71 ?_
      refine lv_iload hx hb dX6_replaceDowns_72 (lv_at hl 0 rfl) ?_
      obtain ⟨z17, e18, hm⟩ := bd_some hm
      refine kv hw Fr_hi (rV hx hb hml hts hown hK hw (c_X6_set l h0 e18) h0 (by decide) rfl (mkV 3 hts k_ml_RX6_84 k_im_yX6_set k_se_yX6_set k_in_RX6 k_co_yX6_set hd_X6_set ⟨Nat.le_of_ble_eq_true rfl, Nat.le_of_ble_eq_true rfl⟩) rfl hl.1 rfl (Nat.le_of_ble_eq_true rfl) dX6_replaceDowns_74 ⟨Nat.le_of_ble_eq_true rfl, Nat.le_of_ble_eq_true rfl⟩) (fun H locs hw => ?_)
      refine lv_iinc (v := (v3 + 1)) (lv' := [(3, .int (v3 + 1)), (4, .int u0), (0, .ref (A a0)), (1, .int x1), (2, .int v2)]) hx hb dX6_replaceDowns_77 hl (k := 4) rfl rfl (by decide) rfl (fun ls hl => ?_)
      refine lv_goto (tgt := 15) hx hb dX6_replaceDowns_80 (by decide) ?_
      exact jk15 v2 (v3 + 1) z17 hm H locs hw ls (lv_sub hl [2, 3, 4, 0] rfl)
  have J15 : ∀ (k2 : Int32 → Mem → Option Mem) (jk2 : ∀ (v2 : Int32) (M : Mem), k2 v2 M = some z → ∀ (H : Heap) (locs : List Loc), WD D cy (Fr A G s.heap.size) A s.heap G M H locs → ∀ ls : Array Slot, lv_has ls 5 [(0, .ref (A a0)), (1, .int x1), (2, .int v2)] → W p l e (headSpec (wm yX6_replaceDowns cX6_replaceDowns 5 none) ({ frames := 3, cells := 0, slots := 0, locals := 69 } : Room)).room s m ([.ref (A a0), .int x1] : List Value).toArray below meth c H locs 0 0 (MQ below (va_Qv (fun (u : Mem) => u = z) (Po D cy A G (Fr A G s.heap.size)) (Fr A G s.heap.size)) ([.ref (A a0), .int x1] : List Value).toArray s 0 0 (Fr A G s.heap.size)) (F0 m 2 ls [])) (n : Nat) (v2 : Int32) (v3 : Int32) (M : Mem), m_X6_replaceDowns_L15 a0 x1 k2 n v2 v3 M = some z → ∀ (H : Heap) (locs : List Loc), WD D cy (Fr A G s.heap.size) A s.heap G M H locs → ∀ ls : Array Slot, lv_has ls 5 [(0, .ref (A a0)), (1, .int x1), (2, .int v2), (3, .int v3)] → W p l e (headSpec (wm yX6_replaceDowns cX6_replaceDowns 5 none) ({ frames := 3, cells := 0, slots := 0, locals := 69 } : Room)).room s m ([.ref (A a0), .int x1] : List Value).toArray below meth c H locs 0 0 (MQ below (va_Qv (fun (u : Mem) => u = z) (Po D cy A G (Fr A G s.heap.size)) (Fr A G s.heap.size)) ([.ref (A a0), .int x1] : List Value).toArray s 0 0 (Fr A G s.heap.size)) (F0 m 15 ls []) := by
    intro k2 jk2 n
    induction n with
    | zero =>
      intro v2 v3 M hm
      cases (show (none : Option Mem) = some z from hm)
    | succ n ih =>
      intro v2 v3 M hm H locs hw ls hl
      have hm := (m_X6_replaceDowns_L15_s a0 x1 k2 n v2 v3 M).symm.trans hm
      refine lv_iload_n hx hb dX6_replaceDowns_15 rfl (lv_at hl 3 rfl) ?_
      refine lv_aload_n hx hb dX6_replaceDowns_16 rfl (lv_at hl 0 rfl) ?_
      refine lv_iload_n hx hb dX6_replaceDowns_17 rfl (lv_at hl 1 rfl) ?_
      refine lv_iconst (v := 0) hx hb dX6_replaceDowns_18 (by decide) ?_
      obtain ⟨z4, e5, hm⟩ := bd_some hm
      refine ki hw Fr_hi (rV hx hb hml hts hown hK hw (c_X6_of l h0 e5) h0 (by decide) rfl (mkV 2 hts k_ml_RX6_31 k_im_yX6_of k_se_yX6_of k_in_RX6 k_co_yX6_of hd_X6_of ⟨Nat.le_of_ble_eq_true rfl, Nat.le_of_ble_eq_true rfl⟩) rfl hl.1 rfl (Nat.le_of_ble_eq_true rfl) dX6_replaceDowns_19 ⟨Nat.le_of_ble_eq_true rfl, Nat.le_of_ble_eq_true rfl⟩) (fun H locs hw => ?_)
      refine lv_icmp_ge (tgt := 83) hx hb dX6_replaceDowns_22 (by decide) (fun hq6 => ?_) (fun hq6 => ?_)
      · have hm := (if_pos hq6).symm.trans hm
        refine lv_iinc (v := (v2 + 1)) (lv' := [(2, .int (v2 + 1)), (0, .ref (A a0)), (1, .int x1), (3, .int v3)]) hx hb dX6_replaceDowns_83 hl (k := 2) rfl rfl (by decide) rfl (fun ls hl => ?_)
        refine lv_goto (tgt := 2) hx hb dX6_replaceDowns_86 (by decide) ?_
        exact jk2 (v2 + 1) M hm H locs hw ls (lv_sub hl [1, 2, 0] rfl)
      · have hm := (if_neg hq6).symm.trans hm
        refine lv_aload_n hx hb dX6_replaceDowns_25 rfl (lv_at hl 0 rfl) ?_
        refine lv_aload_n hx hb dX6_replaceDowns_26 rfl (lv_at hl 0 rfl) ?_
        refine lv_iload_n hx hb dX6_replaceDowns_27 rfl (lv_at hl 1 rfl) ?_
        refine lv_iload_n hx hb dX6_replaceDowns_28 rfl (lv_at hl 2 rfl) ?_
        refine lv_iload_n hx hb dX6_replaceDowns_29 rfl (lv_at hl 3 rfl) ?_
        obtain ⟨z7, e8, hm⟩ := bd_some hm
        refine ki hw Fr_hi (rV hx hb hml hts hown hK hw (c_X6_memberOf l h0 e8) h0 (by decide) rfl (mkV 3 hts k_ml_RX6_35 k_im_yX6_memberOf k_se_yX6_memberOf k_in_RX6 k_co_yX6_memberOf hd_X6_memberOf ⟨Nat.le_of_ble_eq_true rfl, Nat.le_of_ble_eq_true rfl⟩) rfl hl.1 rfl (Nat.le_of_ble_eq_true rfl) dX6_replaceDowns_30 ⟨Nat.le_of_ble_eq_true rfl, Nat.le_of_ble_eq_true rfl⟩) (fun H locs hw => ?_)
        obtain ⟨z9, e10, hm⟩ := bd_some hm
        refine ki hw Fr_hi (rV hx hb hml hts hown hK hw (c_X6_isUp l h0 e10) h0 (by decide) rfl (mkV 1 hts k_ml_RX6_45 k_im_yX6_isUp k_se_yX6_isUp k_in_RX6 k_co_yX6_isUp hd_X6_isUp ⟨Nat.le_of_ble_eq_true rfl, Nat.le_of_ble_eq_true rfl⟩) rfl hl.1 rfl (Nat.le_of_ble_eq_true rfl) dX6_replaceDowns_33 ⟨Nat.le_of_ble_eq_true rfl, Nat.le_of_ble_eq_true rfl⟩) (fun H locs hw => ?_)
        refine lv_if_eq (tgt := 43) hx hb dX6_replaceDowns_36 (by decide) (fun hq11 => ?_) (fun hq11 => ?_)
        · have hm := (if_pos hq11).symm.trans hm
          refine lv_aload_n hx hb dX6_replaceDowns_43 rfl (lv_at hl 0 rfl) ?_
          refine lv_aload_n hx hb dX6_replaceDowns_44 rfl (lv_at hl 0 rfl) ?_
          refine lv_iload_n hx hb dX6_replaceDowns_45 rfl (lv_at hl 1 rfl) ?_
          refine lv_iload_n hx hb dX6_replaceDowns_46 rfl (lv_at hl 2 rfl) ?_
          obtain ⟨z12, e13, hm⟩ := bd_some hm
          refine ki hw Fr_hi (rV hx hb hml hts hown hK hw (c_X6_ensemble l h0 e13) h0 (by decide) rfl (mkV 2 hts k_ml_RX6_109 k_im_yX6_ensemble k_se_yX6_ensemble k_in_RX6 k_co_yX6_ensemble hd_X6_ensemble ⟨Nat.le_of_ble_eq_true rfl, Nat.le_of_ble_eq_true rfl⟩) rfl hl.1 rfl (Nat.le_of_ble_eq_true rfl) dX6_replaceDowns_47 ⟨Nat.le_of_ble_eq_true rfl, Nat.le_of_ble_eq_true rfl⟩) (fun H locs hw => ?_)
          obtain ⟨z14, e15, hm⟩ := bd_some hm
          refine ki hw Fr_hi (rV hx hb hml hts hown hK hw (c_X6_choose l h0 e15) h0 (by decide) rfl (mkV 1 hts k_ml_RX6_102 k_im_yX6_choose k_se_yX6_choose k_in_RX6 k_co_yX6_choose hd_X6_choose ⟨Nat.le_of_ble_eq_true rfl, Nat.le_of_ble_eq_true rfl⟩) rfl hl.1 rfl (Nat.le_of_ble_eq_true rfl) dX6_replaceDowns_50 ⟨Nat.le_of_ble_eq_true rfl, Nat.le_of_ble_eq_true rfl⟩) (fun H locs hw => ?_)
          exact J53 k2 jk2 (fun w0 w1 w2 => m_X6_replaceDowns_L15 a0 x1 k2 n w0 w1 w2) (fun w0 w1 w2 hh H locs hw ls hl => ih w0 w1 w2 hh H locs hw ls hl) v2 v3 z14 M hm H locs hw ls hl
        · have hm := (if_neg hq11).symm.trans hm
          refine lv_iconst (v := (-1)) hx hb dX6_replaceDowns_39 (by decide) ?_
          refine lv_goto (tgt := 53) hx hb dX6_replaceDowns_40 (by decide) ?_
          exact J53 k2 jk2 (fun w0 w1 w2 => m_X6_replaceDowns_L15 a0 x1 k2 n w0 w1 w2) (fun w0 w1 w2 hh H locs hw ls hl => ih w0 w1 w2 hh H locs hw ls hl) v2 v3 (-1) M hm H locs hw ls hl
  have J2 : ∀  (n : Nat) (v2 : Int32) (M : Mem), m_X6_replaceDowns_L2 a0 x1 n v2 M = some z → ∀ (H : Heap) (locs : List Loc), WD D cy (Fr A G s.heap.size) A s.heap G M H locs → ∀ ls : Array Slot, lv_has ls 5 [(0, .ref (A a0)), (1, .int x1), (2, .int v2)] → W p l e (headSpec (wm yX6_replaceDowns cX6_replaceDowns 5 none) ({ frames := 3, cells := 0, slots := 0, locals := 69 } : Room)).room s m ([.ref (A a0), .int x1] : List Value).toArray below meth c H locs 0 0 (MQ below (va_Qv (fun (u : Mem) => u = z) (Po D cy A G (Fr A G s.heap.size)) (Fr A G s.heap.size)) ([.ref (A a0), .int x1] : List Value).toArray s 0 0 (Fr A G s.heap.size)) (F0 m 2 ls []) := by
    intro n
    induction n with
    | zero =>
      intro v2 M hm
      cases (show (none : Option Mem) = some z from hm)
    | succ n ih =>
      intro v2 M hm H locs hw ls hl
      have hm := (m_X6_replaceDowns_L2_s a0 x1 n v2 M).symm.trans hm
      refine lv_iload_n hx hb dX6_replaceDowns_2 rfl (lv_at hl 2 rfl) ?_
      refine lv_aload_n hx hb dX6_replaceDowns_3 rfl (lv_at hl 0 rfl) ?_
      refine lv_iload_n hx hb dX6_replaceDowns_4 rfl (lv_at hl 1 rfl) ?_
      refine lv_bipush (v := 6) hx hb dX6_replaceDowns_5 (by decide) ?_
      obtain ⟨z1, e2, hm⟩ := bd_some hm
      refine ki hw Fr_hi (rV hx hb hml hts hown hK hw (c_X6_of l h0 e2) h0 (by decide) rfl (mkV 2 hts k_ml_RX6_31 k_im_yX6_of k_se_yX6_of k_in_RX6 k_co_yX6_of hd_X6_of ⟨Nat.le_of_ble_eq_true rfl, Nat.le_of_ble_eq_true rfl⟩) rfl hl.1 rfl (Nat.le_of_ble_eq_true rfl) dX6_replaceDowns_7 ⟨Nat.le_of_ble_eq_true rfl, Nat.le_of_ble_eq_true rfl⟩) (fun H locs hw => ?_)
      refine lv_icmp_ge (tgt := 89) hx hb dX6_replaceDowns_10 (by decide) (fun hq3 => ?_) (fun hq3 => ?_)
      · have hm := (if_pos hq3).symm.trans hm
        cases hm
        exact eV hx hb hr hlocks hK hw dX6_replaceDowns_89
      · have hm := (if_neg hq3).symm.trans hm
        refine lv_iconst (v := 0) hx hb dX6_replaceDowns_13 (by decide) ?_
        refine lv_istore_n (lv' := [(3, .int 0), (0, .ref (A a0)), (1, .int x1), (2, .int v2)]) hx hb dX6_replaceDowns_14 rfl hl (by decide) rfl (fun ls hl => ?_)
        exact J15 (fun w0 w1 => m_X6_replaceDowns_L2 a0 x1 n w0 w1) (fun w0 w1 hh H locs hw ls hl => ih w0 w1 hh H locs hw ls hl) fuel v2 0 M hm H locs hw ls (lv_sub hl [1, 2, 3, 0] rfl)
  unfold m_X6_replaceDowns at hm
  revert hw
  suffices K : ∀ (H : Heap) (locs : List Loc), WD D cy (Fr A G s.heap.size) A s.heap G M H locs → W p l e (headSpec (wm yX6_replaceDowns cX6_replaceDowns 5 none) ({ frames := 3, cells := 0, slots := 0, locals := 69 } : Room)).room s m ([.ref (A a0), .int x1] : List Value).toArray below meth c H locs 0 0 (MQ below (va_Qv (fun (u : Mem) => u = z) (Po D cy A G (Fr A G s.heap.size)) (Fr A G s.heap.size)) ([.ref (A a0), .int x1] : List Value).toArray s 0 0 (Fr A G s.heap.size)) (F0 m 0 ls []) from fun hw => K _ _ hw
  intro H locs hw
  refine lv_iconst (v := 0) hx hb dX6_replaceDowns_0 (by decide) ?_
  refine lv_istore_n (lv' := [(2, .int 0), (0, .ref (A a0)), (1, .int x1)]) hx hb dX6_replaceDowns_1 rfl hl (by decide) rfl (fun ls hl => ?_)
  exact J2 fuel 0 M hm H locs hw ls (lv_sub hl [1, 2, 0] rfl)
set_option maxHeartbeats 4000000 in
set_option maxRecDepth 100000 in
theorem c_X6_copies (l : Launch) {D : va_G} {cy : Nat → ClassId} {A : Nat → Nat} {G : Nat → Bool} {M : Mem} {sz : Nat} {a0 : Nat} {x1 : Int32} {x2 : Int32} (h0 : TT G 5 a0)  {z : (Int32 × Mem)} (hm : m_X6_copies a0 x1 x2 M = some z) : Met l yX6_copies (wm yX6_copies cX6_copies 8 (some .int)) ({ frames := 4, cells := 0, slots := 0, locals := 94 } : Room) (va_Pc [.ref (A a0), .int x1, .int x2] (Pr D cy A G M sz)) (va_Qi (fun (r' : Int32) (u : Mem) => r' = z.1 ∧ u = z.2) (Po D cy A G (Fr A G sz)) (Fr A G sz))  0 0 (Fr A G sz) := by
  refine ofB (Qc := fun sz => va_Qi (fun (r' : Int32) (u : Mem) => r' = z.1 ∧ u = z.2) (Po D cy A G (Fr A G sz)) (Fr A G sz)) (by decide +kernel) (Nat.le_of_ble_eq_true rfl) ?_
  intro p e s m below meth c hx hb hr hts hown hlocks hml hmn hK hw ls hl
  have hl : lv_has ls 8 [(0, .ref (A a0)), (1, .int x1), (2, .int x2)] := hl
  have J13 : ∀  (n : Nat) (v3 : Int32) (v4 : Int32) (v5 : Int32) (M : Mem), m_X6_copies_L13 a0 x1 x2 n v3 v4 v5 M = some z → ∀ (H : Heap) (locs : List Loc), WD D cy (Fr A G s.heap.size) A s.heap G M H locs → ∀ ls : Array Slot, lv_has ls 8 [(0, .ref (A a0)), (1, .int x1), (2, .int x2), (3, .int v3), (4, .int v4), (5, .int v5)] → W p l e (headSpec (wm yX6_copies cX6_copies 8 (some .int)) ({ frames := 4, cells := 0, slots := 0, locals := 94 } : Room)).room s m ([.ref (A a0), .int x1, .int x2] : List Value).toArray below meth c H locs 0 0 (MQ below (va_Qi (fun (r' : Int32) (u : Mem) => r' = z.1 ∧ u = z.2) (Po D cy A G (Fr A G s.heap.size)) (Fr A G s.heap.size)) ([.ref (A a0), .int x1, .int x2] : List Value).toArray s 0 0 (Fr A G s.heap.size)) (F0 m 13 ls []) := by
    intro n
    induction n with
    | zero =>
      intro v3 v4 v5 M hm
      cases (show (none : Option (Int32 × Mem)) = some z from hm)
    | succ n ih =>
      intro v3 v4 v5 M hm H locs hw ls hl
      have hm := (m_X6_copies_L13_s a0 x1 x2 n v3 v4 v5 M).symm.trans hm
      refine lv_iload hx hb dX6_copies_13 (lv_at hl 5 rfl) ?_
      refine lv_aload_n hx hb dX6_copies_15 rfl (lv_at hl 0 rfl) ?_
      refine lv_iload_n hx hb dX6_copies_16 rfl (lv_at hl 1 rfl) ?_
      refine lv_iconst (v := 1) hx hb dX6_copies_17 (by decide) ?_
      obtain ⟨z3, e4, hm⟩ := bd_some hm
      refine ki hw Fr_hi (rV hx hb hml hts hown hK hw (c_X6_of l h0 e4) h0 (by decide) rfl (mkV 2 hts k_ml_RX6_31 k_im_yX6_of k_se_yX6_of k_in_RX6 k_co_yX6_of hd_X6_of ⟨Nat.le_of_ble_eq_true rfl, Nat.le_of_ble_eq_true rfl⟩) rfl hl.1 rfl (Nat.le_of_ble_eq_true rfl) dX6_copies_18 ⟨Nat.le_of_ble_eq_true rfl, Nat.le_of_ble_eq_true rfl⟩) (fun H locs hw => ?_)
      refine lv_icmp_ge (tgt := 103) hx hb dX6_copies_21 (by decide) (fun hq5 => ?_) (fun hq5 => ?_)
      · have hm := (if_pos hq5).symm.trans hm
        refine lv_iload_n hx hb dX6_copies_103 rfl (lv_at hl 3 rfl) ?_
        cases hm
        exact eI hx hb hr hlocks hK hw dX6_copies_104
      · have hm := (if_neg hq5).symm.trans hm
        refine lv_aload_n hx hb dX6_copies_24 rfl (lv_at hl 0 rfl) ?_
        refine lv_iload_n hx hb dX6_copies_25 rfl (lv_at hl 1 rfl) ?_
        refine lv_iload hx hb dX6_copies_26 (lv_at hl 4 rfl) ?_
        refine lv_iload_n hx hb dX6_copies_28 rfl (lv_at hl 2 rfl) ?_
        refine lv_iload hx hb dX6_copies_29 (lv_at hl 5 rfl) ?_
        obtain ⟨z6, e7, hm⟩ := bd_some hm
        refine ki hw Fr_hi (rV hx hb hml hts hown hK hw (c_X6_writer l h0 e7) h0 (by decide) rfl (mkV 4 hts k_ml_RX6_41 k_im_yX6_writer k_se_yX6_writer k_in_RX6 k_co_yX6_writer hd_X6_writer ⟨Nat.le_of_ble_eq_true rfl, Nat.le_of_ble_eq_true rfl⟩) rfl hl.1 rfl (Nat.le_of_ble_eq_true rfl) dX6_copies_31 ⟨Nat.le_of_ble_eq_true rfl, Nat.le_of_ble_eq_true rfl⟩) (fun H locs hw => ?_)
        refine lv_istore (lv' := [(6, .int z6), (0, .ref (A a0)), (1, .int x1), (2, .int x2), (3, .int v3), (4, .int v4), (5, .int v5)]) hx hb dX6_copies_34 hl (by decide) rfl (fun ls hl => ?_)
        refine lv_aload_n hx hb dX6_copies_36 rfl (lv_at hl 1 rfl) ?_
        refine lv_iload_n hx hb dX6_copies_37 rfl (lv_at hl 2 rfl) ?_
        refine lv_iload_n hx hb dX6_copies_38 rfl (lv_at hl 3 rfl) ?_
        obtain ⟨z8, e9, hm⟩ := bd_some hm
        refine ki hw Fr_hi (rV hx hb hml hts hown hK hw (c_X6_source l h0 e9) h0 (by decide) rfl (mkV 2 hts k_ml_RX6_124 k_im_yX6_source k_se_yX6_source k_in_RX6 k_co_yX6_source hd_X6_source ⟨Nat.le_of_ble_eq_true rfl, Nat.le_of_ble_eq_true rfl⟩) rfl hl.1 rfl (Nat.le_of_ble_eq_true rfl) dX6_copies_39 ⟨Nat.le_of_ble_eq_true rfl, Nat.le_of_ble_eq_true rfl⟩) (fun H locs hw => ?_)
        refine lv_istore (lv' := [(7, .int z8), (6, .int z6), (0, .ref (A a0)), (1, .int x1), (2, .int x2), (3, .int v3), (4, .int v4), (5, .int v5)]) hx hb dX6_copies_42 hl (by decide) rfl (fun ls hl => ?_)
        refine lv_iload hx hb dX6_copies_44 (lv_at hl 0 rfl) ?_
        refine lv_iconst (v := (-1)) hx hb dX6_copies_46 (by decide) ?_
        refine lv_icmp_eq (tgt := 97) hx hb dX6_copies_47 (by decide) (fun hq10 => ?_) (fun hq10 => ?_)
        · have hm := (if_pos hq10).symm.trans hm
          refine lv_iinc (v := (v5 + 1)) (lv' := [(5, .int (v5 + 1)), (7, .int z8), (6, .int z6), (0, .ref (A a0)), (1, .int x1), (2, .int x2), (3, .int v3), (4, .int v4)]) hx hb dX6_copies_97 hl (k := 7) rfl rfl (by decide) rfl (fun ls hl => ?_)
          refine lv_goto (tgt := 13) hx hb dX6_copies_100 (by decide) ?_
          exact ih v3 v4 (v5 + 1) M hm H locs hw ls (lv_sub hl [3, 4, 5, 6, 7, 0] rfl)
        · have hm := (if_neg hq10).symm.trans hm
          refine lv_aload_n hx hb dX6_copies_50 rfl (lv_at hl 2 rfl) ?_
          refine lv_iload hx hb dX6_copies_51 (lv_at hl 1 rfl) ?_
          obtain ⟨z11, e12, hm⟩ := bd_some hm
          refine ki hw Fr_hi (rV hx hb hml hts hown hK hw (c_X6_isUp l h0 e12) h0 (by decide) rfl (mkV 1 hts k_ml_RX6_45 k_im_yX6_isUp k_se_yX6_isUp k_in_RX6 k_co_yX6_isUp hd_X6_isUp ⟨Nat.le_of_ble_eq_true rfl, Nat.le_of_ble_eq_true rfl⟩) rfl hl.1 rfl (Nat.le_of_ble_eq_true rfl) dX6_copies_53 ⟨Nat.le_of_ble_eq_true rfl, Nat.le_of_ble_eq_true rfl⟩) (fun H locs hw => ?_)
          refine lv_if_eq (tgt := 97) hx hb dX6_copies_56 (by decide) (fun hq13 => ?_) (fun hq13 => ?_)
          · have hm := (if_pos hq13).symm.trans hm
            refine lv_iinc (v := (v5 + 1)) (lv' := [(5, .int (v5 + 1)), (7, .int z8), (6, .int z6), (0, .ref (A a0)), (1, .int x1), (2, .int x2), (3, .int v3), (4, .int v4)]) hx hb dX6_copies_97 hl (k := 7) rfl rfl (by decide) rfl (fun ls hl => ?_)
            refine lv_goto (tgt := 13) hx hb dX6_copies_100 (by decide) ?_
            exact ih v3 v4 (v5 + 1) M hm H locs hw ls (lv_sub hl [3, 4, 5, 6, 7, 0] rfl)
          · have hm := (if_neg hq13).symm.trans hm
            refine lv_aload_n hx hb dX6_copies_59 rfl (lv_at hl 2 rfl) ?_
            refine lv_iload hx hb dX6_copies_60 (lv_at hl 1 rfl) ?_
            refine lv_iload_n hx hb dX6_copies_62 rfl (lv_at hl 3 rfl) ?_
            refine lv_iload_n hx hb dX6_copies_63 rfl (lv_at hl 4 rfl) ?_
            obtain ⟨z14, e15, hm⟩ := bd_some hm
            refine ki hw Fr_hi (rV hx hb hml hts hown hK hw (c_X6_stores l h0 e15) h0 (by decide) rfl (mkV 3 hts k_ml_RX6_112 k_im_yX6_stores k_se_yX6_stores k_in_RX6 k_co_yX6_stores hd_X6_stores ⟨Nat.le_of_ble_eq_true rfl, Nat.le_of_ble_eq_true rfl⟩) rfl hl.1 rfl (Nat.le_of_ble_eq_true rfl) dX6_copies_64 ⟨Nat.le_of_ble_eq_true rfl, Nat.le_of_ble_eq_true rfl⟩) (fun H locs hw => ?_)
            refine lv_if_ne (tgt := 97) hx hb dX6_copies_67 (by decide) (fun hq16 => ?_) (fun hq16 => ?_)
            · have hm := (if_neg hq16).symm.trans hm
              refine lv_iinc (v := (v5 + 1)) (lv' := [(5, .int (v5 + 1)), (7, .int z8), (6, .int z6), (0, .ref (A a0)), (1, .int x1), (2, .int x2), (3, .int v3), (4, .int v4)]) hx hb dX6_copies_97 hl (k := 7) rfl rfl (by decide) rfl (fun ls hl => ?_)
              refine lv_goto (tgt := 13) hx hb dX6_copies_100 (by decide) ?_
              exact ih v3 v4 (v5 + 1) M hm H locs hw ls (lv_sub hl [3, 4, 5, 6, 7, 0] rfl)
            · have hm := (if_pos hq16).symm.trans hm
              refine lv_aload_n hx hb dX6_copies_70 rfl (lv_at hl 2 rfl) ?_
              refine lv_iload hx hb dX6_copies_71 (lv_at hl 1 rfl) ?_
              refine lv_iload_n hx hb dX6_copies_73 rfl (lv_at hl 3 rfl) ?_
              refine lv_iload_n hx hb dX6_copies_74 rfl (lv_at hl 4 rfl) ?_
              refine lv_aload_n hx hb dX6_copies_75 rfl (lv_at hl 2 rfl) ?_
              refine lv_iload hx hb dX6_copies_76 (lv_at hl 0 rfl) ?_
              refine lv_iload_n hx hb dX6_copies_78 rfl (lv_at hl 3 rfl) ?_
              refine lv_iload_n hx hb dX6_copies_79 rfl (lv_at hl 4 rfl) ?_
              obtain ⟨z17, e18, hm⟩ := bd_some hm
              refine ki hw Fr_hi (rV hx hb hml hts hown hK hw (c_X6_payloadAt l h0 e18) h0 (by decide) rfl (mkV 3 hts k_ml_RX6_127 k_im_yX6_payloadAt k_se_yX6_payloadAt k_in_RX6 k_co_yX6_payloadAt hd_X6_payloadAt ⟨Nat.le_of_ble_eq_true rfl, Nat.le_of_ble_eq_true rfl⟩) rfl hl.1 rfl (Nat.le_of_ble_eq_true rfl) dX6_copies_80 ⟨Nat.le_of_ble_eq_true rfl, Nat.le_of_ble_eq_true rfl⟩) (fun H locs hw => ?_)
              refine lv_aload_n hx hb dX6_copies_83 rfl (lv_at hl 2 rfl) ?_
              refine lv_iload hx hb dX6_copies_84 (lv_at hl 0 rfl) ?_
              refine lv_iload_n hx hb dX6_copies_86 rfl (lv_at hl 3 rfl) ?_
              refine lv_iload_n hx hb dX6_copies_87 rfl (lv_at hl 4 rfl) ?_
              obtain ⟨z19, e20, hm⟩ := bd_some hm
              refine ki hw Fr_hi (rV hx hb hml hts hown hK hw (c_X6_confirmedAt l h0 e20) h0 (by decide) rfl (mkV 3 hts k_ml_RX6_115 k_im_yX6_confirmedAt k_se_yX6_confirmedAt k_in_RX6 k_co_yX6_confirmedAt hd_X6_confirmedAt ⟨Nat.le_of_ble_eq_true rfl, Nat.le_of_ble_eq_true rfl⟩) rfl hl.1 rfl (Nat.le_of_ble_eq_true rfl) dX6_copies_88 ⟨Nat.le_of_ble_eq_true rfl, Nat.le_of_ble_eq_true rfl⟩) (fun H locs hw => ?_)
              obtain ⟨z21, e22, hm⟩ := bd_some hm
              refine kv hw Fr_hi (rV hx hb hml hts hown hK hw (c_X6_store l h0 e22) h0 (by decide) rfl (mkV 5 hts k_ml_RX6_77 k_im_yX6_store k_se_yX6_store k_in_RX6 k_co_yX6_store hd_X6_store ⟨Nat.le_of_ble_eq_true rfl, Nat.le_of_ble_eq_true rfl⟩) rfl hl.1 rfl (Nat.le_of_ble_eq_true rfl) dX6_copies_91 ⟨Nat.le_of_ble_eq_true rfl, Nat.le_of_ble_eq_true rfl⟩) (fun H locs hw => ?_)
              refine lv_iinc (v := (v3 + 1)) (lv' := [(3, .int (v3 + 1)), (7, .int z8), (6, .int z6), (0, .ref (A a0)), (1, .int x1), (2, .int x2), (4, .int v4), (5, .int v5)]) hx hb dX6_copies_94 hl (k := 5) rfl rfl (by decide) rfl (fun ls hl => ?_)
              refine lv_iinc (v := (v5 + 1)) (lv' := [(5, .int (v5 + 1)), (3, .int (v3 + 1)), (7, .int z8), (6, .int z6), (0, .ref (A a0)), (1, .int x1), (2, .int x2), (4, .int v4)]) hx hb dX6_copies_97 hl (k := 7) rfl rfl (by decide) rfl (fun ls hl => ?_)
              refine lv_goto (tgt := 13) hx hb dX6_copies_100 (by decide) ?_
              exact ih (v3 + 1) v4 (v5 + 1) z21 hm H locs hw ls (lv_sub hl [4, 5, 6, 1, 7, 0] rfl)
  unfold m_X6_copies at hm
  revert hw
  suffices K : ∀ (H : Heap) (locs : List Loc), WD D cy (Fr A G s.heap.size) A s.heap G M H locs → W p l e (headSpec (wm yX6_copies cX6_copies 8 (some .int)) ({ frames := 4, cells := 0, slots := 0, locals := 94 } : Room)).room s m ([.ref (A a0), .int x1, .int x2] : List Value).toArray below meth c H locs 0 0 (MQ below (va_Qi (fun (r' : Int32) (u : Mem) => r' = z.1 ∧ u = z.2) (Po D cy A G (Fr A G s.heap.size)) (Fr A G s.heap.size)) ([.ref (A a0), .int x1, .int x2] : List Value).toArray s 0 0 (Fr A G s.heap.size)) (F0 m 0 ls []) from fun hw => K _ _ hw
  intro H locs hw
  refine lv_iconst (v := 0) hx hb dX6_copies_0 (by decide) ?_
  refine lv_istore_n (lv' := [(3, .int 0), (0, .ref (A a0)), (1, .int x1), (2, .int x2)]) hx hb dX6_copies_1 rfl hl (by decide) rfl (fun ls hl => ?_)
  refine lv_aload_n hx hb dX6_copies_2 rfl (lv_at hl 1 rfl) ?_
  refine lv_iload_n hx hb dX6_copies_3 rfl (lv_at hl 2 rfl) ?_
  refine lv_iload_n hx hb dX6_copies_4 rfl (lv_at hl 3 rfl) ?_
  obtain ⟨z1, e2, hm⟩ := bd_some hm
  refine ki hw Fr_hi (rV hx hb hml hts hown hK hw (c_X6_fragmentOf l h0 e2) h0 (by decide) rfl (mkV 2 hts k_ml_RX6_38 k_im_yX6_fragmentOf k_se_yX6_fragmentOf k_in_RX6 k_co_yX6_fragmentOf hd_X6_fragmentOf ⟨Nat.le_of_ble_eq_true rfl, Nat.le_of_ble_eq_true rfl⟩) rfl hl.1 rfl (Nat.le_of_ble_eq_true rfl) dX6_copies_5 ⟨Nat.le_of_ble_eq_true rfl, Nat.le_of_ble_eq_true rfl⟩) (fun H locs hw => ?_)
  refine lv_istore (lv' := [(4, .int z1), (3, .int 0), (0, .ref (A a0)), (1, .int x1), (2, .int x2)]) hx hb dX6_copies_8 hl (by decide) rfl (fun ls hl => ?_)
  refine lv_iconst (v := 0) hx hb dX6_copies_10 (by decide) ?_
  refine lv_istore (lv' := [(5, .int 0), (4, .int z1), (3, .int 0), (0, .ref (A a0)), (1, .int x1), (2, .int x2)]) hx hb dX6_copies_11 hl (by decide) rfl (fun ls hl => ?_)
  exact J13 fuel 0 z1 0 M hm H locs hw ls (lv_sub hl [3, 4, 5, 2, 1, 0] rfl)
set_option maxHeartbeats 4000000 in
set_option maxRecDepth 100000 in
theorem c_X6_repair (l : Launch) {D : va_G} {cy : Nat → ClassId} {A : Nat → Nat} {G : Nat → Bool} {M : Mem} {sz : Nat} {a0 : Nat} {x1 : Int32} (h0 : TT G 5 a0)  {z : (Int32 × Mem)} (hm : m_X6_repair a0 x1 M = some z) : Met l yX6_repair (wm yX6_repair cX6_repair 4 (some .int)) ({ frames := 5, cells := 0, slots := 0, locals := 121 } : Room) (va_Pc [.ref (A a0), .int x1] (Pr D cy A G M sz)) (va_Qi (fun (r' : Int32) (u : Mem) => r' = z.1 ∧ u = z.2) (Po D cy A G (Fr A G sz)) (Fr A G sz))  0 0 (Fr A G sz) := by
  refine ofB (Qc := fun sz => va_Qi (fun (r' : Int32) (u : Mem) => r' = z.1 ∧ u = z.2) (Po D cy A G (Fr A G sz)) (Fr A G sz)) (by decide +kernel) (Nat.le_of_ble_eq_true rfl) ?_
  intro p e s m below meth c hx hb hr hts hown hlocks hml hmn hK hw ls hl
  have hl : lv_has ls 4 [(0, .ref (A a0)), (1, .int x1)] := hl
  have J50 : ∀  (n : Nat) (v2 : Int32) (v3 : Int32) (M : Mem), m_X6_repair_L50 a0 x1 n v2 v3 M = some z → ∀ (H : Heap) (locs : List Loc), WD D cy (Fr A G s.heap.size) A s.heap G M H locs → ∀ ls : Array Slot, lv_has ls 4 [(0, .ref (A a0)), (1, .int x1), (2, .int v2), (3, .int v3)] → W p l e (headSpec (wm yX6_repair cX6_repair 4 (some .int)) ({ frames := 5, cells := 0, slots := 0, locals := 121 } : Room)).room s m ([.ref (A a0), .int x1] : List Value).toArray below meth c H locs 0 0 (MQ below (va_Qi (fun (r' : Int32) (u : Mem) => r' = z.1 ∧ u = z.2) (Po D cy A G (Fr A G s.heap.size)) (Fr A G s.heap.size)) ([.ref (A a0), .int x1] : List Value).toArray s 0 0 (Fr A G s.heap.size)) (F0 m 50 ls []) := by
    intro n
    induction n with
    | zero =>
      intro v2 v3 M hm
      cases (show (none : Option (Int32 × Mem)) = some z from hm)
    | succ n ih =>
      intro v2 v3 M hm H locs hw ls hl
      have hm := (m_X6_repair_L50_s a0 x1 n v2 v3 M).symm.trans hm
      refine lv_iload_n hx hb dX6_repair_50 rfl (lv_at hl 3 rfl) ?_
      refine lv_aload_n hx hb dX6_repair_51 rfl (lv_at hl 0 rfl) ?_
      refine lv_iload_n hx hb dX6_repair_52 rfl (lv_at hl 1 rfl) ?_
      refine lv_iconst (v := 5) hx hb dX6_repair_53 (by decide) ?_
      obtain ⟨z11, e12, hm⟩ := bd_some hm
      refine ki hw Fr_hi (rV hx hb hml hts hown hK hw (c_X6_of l h0 e12) h0 (by decide) rfl (mkV 2 hts k_ml_RX6_31 k_im_yX6_of k_se_yX6_of k_in_RX6 k_co_yX6_of hd_X6_of ⟨Nat.le_of_ble_eq_true rfl, Nat.le_of_ble_eq_true rfl⟩) rfl hl.1 rfl (Nat.le_of_ble_eq_true rfl) dX6_repair_54 ⟨Nat.le_of_ble_eq_true rfl, Nat.le_of_ble_eq_true rfl⟩) (fun H locs hw => ?_)
      refine lv_icmp_gt (tgt := 75) hx hb dX6_repair_57 (by decide) (fun hq13 => ?_) (fun hq13 => ?_)
      · have hm := (if_pos hq13).symm.trans hm
        refine lv_iload_n hx hb dX6_repair_75 rfl (lv_at hl 2 rfl) ?_
        cases hm
        exact eI hx hb hr hlocks hK hw dX6_repair_76
      · have hm := (if_neg hq13).symm.trans hm
        refine lv_iload_n hx hb dX6_repair_60 rfl (lv_at hl 2 rfl) ?_
        refine lv_aload_n hx hb dX6_repair_61 rfl (lv_at hl 0 rfl) ?_
        refine lv_iload_n hx hb dX6_repair_62 rfl (lv_at hl 1 rfl) ?_
        refine lv_iload_n hx hb dX6_repair_63 rfl (lv_at hl 3 rfl) ?_
        obtain ⟨z14, e15, hm⟩ := bd_some hm
        refine ki hw Fr_hi (rV hx hb hml hts hown hK hw (c_X6_copies l h0 e15) h0 (by decide) rfl (mkV 2 hts k_ml_RX6_136 k_im_yX6_copies k_se_yX6_copies k_in_RX6 k_co_yX6_copies hd_X6_copies ⟨Nat.le_of_ble_eq_true rfl, Nat.le_of_ble_eq_true rfl⟩) rfl hl.1 rfl (Nat.le_of_ble_eq_true rfl) dX6_repair_64 ⟨Nat.le_of_ble_eq_true rfl, Nat.le_of_ble_eq_true rfl⟩) (fun H locs hw => ?_)
        refine lv_iadd hx hb dX6_repair_67 ?_
        refine lv_istore_n (lv' := [(2, .int (v2 + z14.1)), (0, .ref (A a0)), (1, .int x1), (3, .int v3)]) hx hb dX6_repair_68 rfl hl (by decide) rfl (fun ls hl => ?_)
        refine lv_iinc (v := (v3 + 1)) (lv' := [(3, .int (v3 + 1)), (2, .int (v2 + z14.1)), (0, .ref (A a0)), (1, .int x1)]) hx hb dX6_repair_69 hl (k := 3) rfl rfl (by decide) rfl (fun ls hl => ?_)
        refine lv_goto (tgt := 50) hx hb dX6_repair_72 (by decide) ?_
        exact ih (v2 + z14.1) (v3 + 1) z14.2 hm H locs hw ls (lv_sub hl [2, 3, 1, 0] rfl)
  have J29 : ∀  (u0 : Nat) (u1 : Int32) (u2 : Int32) (M : Mem) (hu0 : TT G 5 u0), m_X6_repair_b29 a0 x1 u0 u1 u2 M = some z → ∀ (H : Heap) (locs : List Loc), WD D cy (Fr A G s.heap.size) A s.heap G M H locs → ∀ ls : Array Slot, lv_has ls 4 [(0, .ref (A a0)), (1, .int x1)] → W p l e (headSpec (wm yX6_repair cX6_repair 4 (some .int)) ({ frames := 5, cells := 0, slots := 0, locals := 121 } : Room)).room s m ([.ref (A a0), .int x1] : List Value).toArray below meth c H locs 0 0 (MQ below (va_Qi (fun (r' : Int32) (u : Mem) => r' = z.1 ∧ u = z.2) (Po D cy A G (Fr A G s.heap.size)) (Fr A G s.heap.size)) ([.ref (A a0), .int x1] : List Value).toArray s 0 0 (Fr A G s.heap.size)) (F0 m 29 ls [.int u2, .int u1, .ref (A u0)]) := by
    intro u0 u1 u2 M hu0 hm H locs hw ls hl
    unfold m_X6_repair_b29 at hm
    refine ki hw Fr_hi (rV hx hb hml hts hown hK hw (c_X6_isFine l hu0 u1 u2) hu0 (by decide) rfl (mkV 2 hts k_ml_RX6_69 k_im_yX6_isFine k_se_yX6_isFine k_in_RX6 k_co_yX6_isFine hd_X6_isFine ⟨Nat.le_of_ble_eq_true rfl, Nat.le_of_ble_eq_true rfl⟩) rfl hl.1 rfl (Nat.le_of_ble_eq_true rfl) dX6_repair_29 ⟨Nat.le_of_ble_eq_true rfl, Nat.le_of_ble_eq_true rfl⟩) (fun H locs hw => ?_)
    refine lv_if_ne (tgt := 37) hx hb dX6_repair_32 (by decide) (fun hq6 => ?_) (fun hq6 => ?_)
    · have hm := (if_neg hq6).symm.trans hm
      refine lv_aload_n hx hb dX6_repair_37 rfl (lv_at hl 0 rfl) ?_
      obtain ⟨z7, e8, hm⟩ := bd_some hm
      refine kv hw Fr_hi (rV hx hb hml hts hown hK hw (c_X6_note l h0 e8) h0 (by decide) rfl (mkV 0 hts k_ml_RX6_63 k_im_yX6_note k_se_yX6_note k_in_RX6 k_co_yX6_note hd_X6_note ⟨Nat.le_of_ble_eq_true rfl, Nat.le_of_ble_eq_true rfl⟩) rfl hl.1 rfl (Nat.le_of_ble_eq_true rfl) dX6_repair_38 ⟨Nat.le_of_ble_eq_true rfl, Nat.le_of_ble_eq_true rfl⟩) (fun H locs hw => ?_)
      refine lv_aload_n hx hb dX6_repair_41 rfl (lv_at hl 0 rfl) ?_
      refine lv_iload_n hx hb dX6_repair_42 rfl (lv_at hl 1 rfl) ?_
      obtain ⟨z9, e10, hm⟩ := bd_some hm
      refine kv hw Fr_hi (rV hx hb hml hts hown hK hw (c_X6_replaceDowns l h0 e10) h0 (by decide) rfl (mkV 1 hts k_ml_RX6_133 k_im_yX6_replaceDowns k_se_yX6_replaceDowns k_in_RX6 k_co_yX6_replaceDowns hd_X6_replaceDowns ⟨Nat.le_of_ble_eq_true rfl, Nat.le_of_ble_eq_true rfl⟩) rfl hl.1 rfl (Nat.le_of_ble_eq_true rfl) dX6_repair_43 ⟨Nat.le_of_ble_eq_true rfl, Nat.le_of_ble_eq_true rfl⟩) (fun H locs hw => ?_)
      refine lv_iconst (v := 0) hx hb dX6_repair_46 (by decide) ?_
      refine lv_istore_n (lv' := [(2, .int 0), (0, .ref (A a0)), (1, .int x1)]) hx hb dX6_repair_47 rfl hl (by decide) rfl (fun ls hl => ?_)
      refine lv_iconst (v := 0) hx hb dX6_repair_48 (by decide) ?_
      refine lv_istore_n (lv' := [(3, .int 0), (2, .int 0), (0, .ref (A a0)), (1, .int x1)]) hx hb dX6_repair_49 rfl hl (by decide) rfl (fun ls hl => ?_)
      exact J50 fuel 0 0 z9 hm H locs hw ls (lv_sub hl [2, 3, 1, 0] rfl)
    · have hm := (if_pos hq6).symm.trans hm
      refine lv_iconst (v := 0) hx hb dX6_repair_35 (by decide) ?_
      cases hm
      exact eI hx hb hr hlocks hK hw dX6_repair_36
  unfold m_X6_repair at hm
  revert hw
  suffices K : ∀ (H : Heap) (locs : List Loc), WD D cy (Fr A G s.heap.size) A s.heap G M H locs → W p l e (headSpec (wm yX6_repair cX6_repair 4 (some .int)) ({ frames := 5, cells := 0, slots := 0, locals := 121 } : Room)).room s m ([.ref (A a0), .int x1] : List Value).toArray below meth c H locs 0 0 (MQ below (va_Qi (fun (r' : Int32) (u : Mem) => r' = z.1 ∧ u = z.2) (Po D cy A G (Fr A G s.heap.size)) (Fr A G s.heap.size)) ([.ref (A a0), .int x1] : List Value).toArray s 0 0 (Fr A G s.heap.size)) (F0 m 0 ls []) from fun hw => K _ _ hw
  intro H locs hw
  refine lv_aload_n hx hb dX6_repair_0 rfl (lv_at hl 0 rfl) ?_
  refine lv_aload_n hx hb dX6_repair_1 rfl (lv_at hl 0 rfl) ?_
  refine lv_iload_n hx hb dX6_repair_2 rfl (lv_at hl 1 rfl) ?_
  obtain ⟨z1, e2, hm⟩ := bd_some hm
  refine ki hw Fr_hi (rV hx hb hml hts hown hK hw (c_X6_isLedger l h0 e2) h0 (by decide) rfl (mkV 1 hts k_ml_RX6_95 k_im_yX6_isLedger k_se_yX6_isLedger k_in_RX6 k_co_yX6_isLedger hd_X6_isLedger ⟨Nat.le_of_ble_eq_true rfl, Nat.le_of_ble_eq_true rfl⟩) rfl hl.1 rfl (Nat.le_of_ble_eq_true rfl) dX6_repair_3 ⟨Nat.le_of_ble_eq_true rfl, Nat.le_of_ble_eq_true rfl⟩) (fun H locs hw => ?_)
  refine lv_aload_n hx hb dX6_repair_6 rfl (lv_at hl 0 rfl) ?_
  refine lv_iload_n hx hb dX6_repair_7 rfl (lv_at hl 1 rfl) ?_
  obtain ⟨z3, e4, hm⟩ := bd_some hm
  refine ki hw Fr_hi (rV hx hb hml hts hown hK hw (c_X6_isLedger l h0 e4) h0 (by decide) rfl (mkV 1 hts k_ml_RX6_95 k_im_yX6_isLedger k_se_yX6_isLedger k_in_RX6 k_co_yX6_isLedger hd_X6_isLedger ⟨Nat.le_of_ble_eq_true rfl, Nat.le_of_ble_eq_true rfl⟩) rfl hl.1 rfl (Nat.le_of_ble_eq_true rfl) dX6_repair_8 ⟨Nat.le_of_ble_eq_true rfl, Nat.le_of_ble_eq_true rfl⟩) (fun H locs hw => ?_)
  refine lv_if_eq (tgt := 28) hx hb dX6_repair_11 (by decide) (fun hq5 => ?_) (fun hq5 => ?_)
  · have hm := (if_pos hq5).symm.trans hm
    refine lv_iconst (v := 0) hx hb dX6_repair_28 (by decide) ?_
    exact J29 a0 z1 0 M h0 hm H locs hw ls hl
  · have hm := (if_neg hq5).symm.trans hm
    refine lv_aload_n hx hb dX6_repair_14 rfl (lv_at hl 0 rfl) ?_
    refine lv_iload_n hx hb dX6_repair_15 rfl (lv_at hl 1 rfl) ?_
    refine lv_iconst (v := 3) hx hb dX6_repair_16 (by decide) ?_
    obtain ⟨z16, e17, hm⟩ := bd_some hm
    refine ki hw Fr_hi (rV hx hb hml hts hown hK hw (c_X6_of l h0 e17) h0 (by decide) rfl (mkV 2 hts k_ml_RX6_31 k_im_yX6_of k_se_yX6_of k_in_RX6 k_co_yX6_of hd_X6_of ⟨Nat.le_of_ble_eq_true rfl, Nat.le_of_ble_eq_true rfl⟩) rfl hl.1 rfl (Nat.le_of_ble_eq_true rfl) dX6_repair_17 ⟨Nat.le_of_ble_eq_true rfl, Nat.le_of_ble_eq_true rfl⟩) (fun H locs hw => ?_)
    refine lv_iconst (v := 2) hx hb dX6_repair_20 (by decide) ?_
    refine lv_icmp_ne (tgt := 28) hx hb dX6_repair_21 (by decide) (fun hq18 => ?_) (fun hq18 => ?_)
    · have hm := (if_neg hq18).symm.trans hm
      refine lv_iconst (v := 0) hx hb dX6_repair_28 (by decide) ?_
      exact J29 a0 z1 0 M h0 hm H locs hw ls hl
    · have hm := (if_pos hq18).symm.trans hm
      refine lv_iconst (v := 1) hx hb dX6_repair_24 (by decide) ?_
      refine lv_goto (tgt := 29) hx hb dX6_repair_25 (by decide) ?_
      exact J29 a0 z1 1 M h0 hm H locs hw ls hl
set_option maxHeartbeats 4000000 in
set_option maxRecDepth 100000 in
theorem c_X6_read (l : Launch) {D : va_G} {cy : Nat → ClassId} {A : Nat → Nat} {G : Nat → Bool} {M : Mem} {sz : Nat} {a0 : Nat} {x1 : Int32} {x2 : Int32} (h0 : TT G 5 a0)  {z : (Int32 × Mem)} (hm : m_X6_read a0 x1 x2 M = some z) : Met l yX6_read (wm yX6_read cX6_read 5 (some .int)) ({ frames := 4, cells := 0, slots := 0, locals := 94 } : Room) (va_Pc [.ref (A a0), .int x1, .int x2] (Pr D cy A G M sz)) (va_Qi (fun (r' : Int32) (u : Mem) => r' = z.1 ∧ u = z.2) (Po D cy A G (Fr A G sz)) (Fr A G sz))  0 0 (Fr A G sz) := by
  refine ofB (Qc := fun sz => va_Qi (fun (r' : Int32) (u : Mem) => r' = z.1 ∧ u = z.2) (Po D cy A G (Fr A G sz)) (Fr A G sz)) (by decide +kernel) (Nat.le_of_ble_eq_true rfl) ?_
  intro p e s m below meth c hx hb hr hts hown hlocks hml hmn hK hw ls hl
  have hl : lv_has ls 5 [(0, .ref (A a0)), (1, .int x1), (2, .int x2)] := hl
  have J38 : ∀  (u0 : Nat) (u1 : Int32) (u2 : Int32) (M : Mem) (hu0 : TT G 5 u0), m_X6_read_b38 a0 x1 x2 u0 u1 u2 M = some z → ∀ (H : Heap) (locs : List Loc), WD D cy (Fr A G s.heap.size) A s.heap G M H locs → ∀ ls : Array Slot, lv_has ls 5 [(0, .ref (A a0)), (1, .int x1), (2, .int x2)] → W p l e (headSpec (wm yX6_read cX6_read 5 (some .int)) ({ frames := 4, cells := 0, slots := 0, locals := 94 } : Room)).room s m ([.ref (A a0), .int x1, .int x2] : List Value).toArray below meth c H locs 0 0 (MQ below (va_Qi (fun (r' : Int32) (u : Mem) => r' = z.1 ∧ u = z.2) (Po D cy A G (Fr A G s.heap.size)) (Fr A G s.heap.size)) ([.ref (A a0), .int x1, .int x2] : List Value).toArray s 0 0 (Fr A G s.heap.size)) (F0 m 38 ls [.int u2, .int u1, .ref (A u0)]) := by
    intro u0 u1 u2 M hu0 hm H locs hw ls hl
    unfold m_X6_read_b38 at hm
    refine ki hw Fr_hi (rV hx hb hml hts hown hK hw (c_X6_isFine l hu0 u1 u2) hu0 (by decide) rfl (mkV 2 hts k_ml_RX6_69 k_im_yX6_isFine k_se_yX6_isFine k_in_RX6 k_co_yX6_isFine hd_X6_isFine ⟨Nat.le_of_ble_eq_true rfl, Nat.le_of_ble_eq_true rfl⟩) rfl hl.1 rfl (Nat.le_of_ble_eq_true rfl) dX6_read_38 ⟨Nat.le_of_ble_eq_true rfl, Nat.le_of_ble_eq_true rfl⟩) (fun H locs hw => ?_)
    refine lv_if_ne (tgt := 46) hx hb dX6_read_41 (by decide) (fun hq5 => ?_) (fun hq5 => ?_)
    · have hm := (if_neg hq5).symm.trans hm
      refine lv_aload_n hx hb dX6_read_46 rfl (lv_at hl 0 rfl) ?_
      refine lv_iload_n hx hb dX6_read_47 rfl (lv_at hl 1 rfl) ?_
      refine lv_iload_n hx hb dX6_read_48 rfl (lv_at hl 2 rfl) ?_
      obtain ⟨z6, e7, hm⟩ := bd_some hm
      refine ki hw Fr_hi (rV hx hb hml hts hown hK hw (c_X6_source l h0 e7) h0 (by decide) rfl (mkV 2 hts k_ml_RX6_124 k_im_yX6_source k_se_yX6_source k_in_RX6 k_co_yX6_source hd_X6_source ⟨Nat.le_of_ble_eq_true rfl, Nat.le_of_ble_eq_true rfl⟩) rfl hl.1 rfl (Nat.le_of_ble_eq_true rfl) dX6_read_49 ⟨Nat.le_of_ble_eq_true rfl, Nat.le_of_ble_eq_true rfl⟩) (fun H locs hw => ?_)
      refine lv_istore (lv' := [(4, .int z6), (0, .ref (A a0)), (1, .int x1), (2, .int x2)]) hx hb dX6_read_52 hl (by decide) rfl (fun ls hl => ?_)
      refine lv_iload hx hb dX6_read_54 (lv_at hl 0 rfl) ?_
      refine lv_iconst (v := (-1)) hx hb dX6_read_56 (by decide) ?_
      refine lv_icmp_ne (tgt := 64) hx hb dX6_read_57 (by decide) (fun hq8 => ?_) (fun hq8 => ?_)
      · have hm := (if_neg hq8).symm.trans hm
        refine lv_aload_n hx hb dX6_read_64 rfl (lv_at hl 1 rfl) ?_
        refine lv_iload hx hb dX6_read_65 (lv_at hl 0 rfl) ?_
        refine lv_iload_n hx hb dX6_read_67 rfl (lv_at hl 2 rfl) ?_
        refine lv_iload_n hx hb dX6_read_68 rfl (lv_at hl 3 rfl) ?_
        obtain ⟨z9, e10, hm⟩ := bd_some hm
        refine ki hw Fr_hi (rV hx hb hml hts hown hK hw (c_X6_payloadAt l h0 e10) h0 (by decide) rfl (mkV 3 hts k_ml_RX6_127 k_im_yX6_payloadAt k_se_yX6_payloadAt k_in_RX6 k_co_yX6_payloadAt hd_X6_payloadAt ⟨Nat.le_of_ble_eq_true rfl, Nat.le_of_ble_eq_true rfl⟩) rfl hl.1 rfl (Nat.le_of_ble_eq_true rfl) dX6_read_69 ⟨Nat.le_of_ble_eq_true rfl, Nat.le_of_ble_eq_true rfl⟩) (fun H locs hw => ?_)
        cases hm
        exact eI hx hb hr hlocks hK hw dX6_read_72
      · have hm := (if_pos hq8).symm.trans hm
        refine lv_iconst (v := (-1)) hx hb dX6_read_60 (by decide) ?_
        refine lv_goto (tgt := 72) hx hb dX6_read_61 (by decide) ?_
        cases hm
        exact eI hx hb hr hlocks hK hw dX6_read_72
    · have hm := (if_pos hq5).symm.trans hm
      refine lv_iconst (v := 0) hx hb dX6_read_44 (by decide) ?_
      cases hm
      exact eI hx hb hr hlocks hK hw dX6_read_45
  have J17 : ∀  (u0 : Int32) (M : Mem), m_X6_read_b17 a0 x1 x2 u0 M = some z → ∀ (H : Heap) (locs : List Loc), WD D cy (Fr A G s.heap.size) A s.heap G M H locs → ∀ ls : Array Slot, lv_has ls 5 [(0, .ref (A a0)), (1, .int x1), (2, .int x2)] → W p l e (headSpec (wm yX6_read cX6_read 5 (some .int)) ({ frames := 4, cells := 0, slots := 0, locals := 94 } : Room)).room s m ([.ref (A a0), .int x1, .int x2] : List Value).toArray below meth c H locs 0 0 (MQ below (va_Qi (fun (r' : Int32) (u : Mem) => r' = z.1 ∧ u = z.2) (Po D cy A G (Fr A G s.heap.size)) (Fr A G s.heap.size)) ([.ref (A a0), .int x1, .int x2] : List Value).toArray s 0 0 (Fr A G s.heap.size)) (F0 m 17 ls [.int u0]) := by
    intro u0 M hm H locs hw ls hl
    unfold m_X6_read_b17 at hm
    refine lv_istore_n (lv' := [(3, .int u0), (0, .ref (A a0)), (1, .int x1), (2, .int x2)]) hx hb dX6_read_17 rfl hl (by decide) rfl (fun ls hl => ?_)
    refine lv_aload_n hx hb dX6_read_18 rfl (lv_at hl 1 rfl) ?_
    refine lv_iload_n hx hb dX6_read_19 rfl (lv_at hl 0 rfl) ?_
    refine lv_iload_n hx hb dX6_read_20 rfl (lv_at hl 0 rfl) ?_
    refine lv_if_eq (tgt := 37) hx hb dX6_read_21 (by decide) (fun hq4 => ?_) (fun hq4 => ?_)
    · have hm := (if_pos hq4).symm.trans hm
      refine lv_iconst (v := 0) hx hb dX6_read_37 (by decide) ?_
      exact J38 a0 u0 0 M h0 hm H locs hw ls (lv_sub hl [1, 2, 3] rfl)
    · have hm := (if_neg hq4).symm.trans hm
      refine lv_iload_n hx hb dX6_read_24 rfl (lv_at hl 3 rfl) ?_
      refine lv_aload_n hx hb dX6_read_25 rfl (lv_at hl 1 rfl) ?_
      refine lv_iload_n hx hb dX6_read_26 rfl (lv_at hl 2 rfl) ?_
      obtain ⟨z11, e12, hm⟩ := bd_some hm
      refine ki hw Fr_hi (rV hx hb hml hts hown hK hw (c_X6_readable l h0 e12) h0 (by decide) rfl (mkV 1 hts k_ml_RX6_139 k_im_yX6_readable k_se_yX6_readable k_in_RX6 k_co_yX6_readable hd_X6_readable ⟨Nat.le_of_ble_eq_true rfl, Nat.le_of_ble_eq_true rfl⟩) rfl hl.1 rfl (Nat.le_of_ble_eq_true rfl) dX6_read_27 ⟨Nat.le_of_ble_eq_true rfl, Nat.le_of_ble_eq_true rfl⟩) (fun H locs hw => ?_)
      refine lv_icmp_gt (tgt := 37) hx hb dX6_read_30 (by decide) (fun hq13 => ?_) (fun hq13 => ?_)
      · have hm := (if_pos hq13).symm.trans hm
        refine lv_iconst (v := 0) hx hb dX6_read_37 (by decide) ?_
        exact J38 a0 u0 0 M h0 hm H locs hw ls (lv_sub hl [1, 2, 3] rfl)
      · have hm := (if_neg hq13).symm.trans hm
        refine lv_iconst (v := 1) hx hb dX6_read_33 (by decide) ?_
        refine lv_goto (tgt := 38) hx hb dX6_read_34 (by decide) ?_
        exact J38 a0 u0 1 M h0 hm H locs hw ls (lv_sub hl [1, 2, 3] rfl)
  unfold m_X6_read at hm
  revert hw
  suffices K : ∀ (H : Heap) (locs : List Loc), WD D cy (Fr A G s.heap.size) A s.heap G M H locs → W p l e (headSpec (wm yX6_read cX6_read 5 (some .int)) ({ frames := 4, cells := 0, slots := 0, locals := 94 } : Room)).room s m ([.ref (A a0), .int x1, .int x2] : List Value).toArray below meth c H locs 0 0 (MQ below (va_Qi (fun (r' : Int32) (u : Mem) => r' = z.1 ∧ u = z.2) (Po D cy A G (Fr A G s.heap.size)) (Fr A G s.heap.size)) ([.ref (A a0), .int x1, .int x2] : List Value).toArray s 0 0 (Fr A G s.heap.size)) (F0 m 0 ls []) from fun hw => K _ _ hw
  intro H locs hw
  refine lv_aload_n hx hb dX6_read_0 rfl (lv_at hl 0 rfl) ?_
  refine lv_iload_n hx hb dX6_read_1 rfl (lv_at hl 1 rfl) ?_
  obtain ⟨z1, e2, hm⟩ := bd_some hm
  refine ki hw Fr_hi (rV hx hb hml hts hown hK hw (c_X6_isLedger l h0 e2) h0 (by decide) rfl (mkV 1 hts k_ml_RX6_95 k_im_yX6_isLedger k_se_yX6_isLedger k_in_RX6 k_co_yX6_isLedger hd_X6_isLedger ⟨Nat.le_of_ble_eq_true rfl, Nat.le_of_ble_eq_true rfl⟩) rfl hl.1 rfl (Nat.le_of_ble_eq_true rfl) dX6_read_2 ⟨Nat.le_of_ble_eq_true rfl, Nat.le_of_ble_eq_true rfl⟩) (fun H locs hw => ?_)
  refine lv_if_eq (tgt := 16) hx hb dX6_read_5 (by decide) (fun hq3 => ?_) (fun hq3 => ?_)
  · have hm := (if_pos hq3).symm.trans hm
    refine lv_iconst (v := 0) hx hb dX6_read_16 (by decide) ?_
    exact J17 0 M hm H locs hw ls hl
  · have hm := (if_neg hq3).symm.trans hm
    refine lv_iload_n hx hb dX6_read_8 rfl (lv_at hl 2 rfl) ?_
    refine lv_if_lt (tgt := 16) hx hb dX6_read_9 (by decide) (fun hq14 => ?_) (fun hq14 => ?_)
    · have hm := (if_pos hq14).symm.trans hm
      refine lv_iconst (v := 0) hx hb dX6_read_16 (by decide) ?_
      exact J17 0 M hm H locs hw ls hl
    · have hm := (if_neg hq14).symm.trans hm
      refine lv_iconst (v := 1) hx hb dX6_read_12 (by decide) ?_
      refine lv_goto (tgt := 17) hx hb dX6_read_13 (by decide) ?_
      exact J17 1 M hm H locs hw ls hl
set_option maxHeartbeats 4000000 in
set_option maxRecDepth 100000 in
theorem c_X6_state (l : Launch) {D : va_G} {cy : Nat → ClassId} {A : Nat → Nat} {G : Nat → Bool} {M : Mem} {sz : Nat} {a0 : Nat} {x1 : Int32} (h0 : TT G 5 a0)  {z : (Int32 × Mem)} (hm : m_X6_state a0 x1 M = some z) : Met l yX6_state (wm yX6_state cX6_state 2 (some .int)) ({ frames := 2, cells := 0, slots := 0, locals := 43 } : Room) (va_Pc [.ref (A a0), .int x1] (Pr D cy A G M sz)) (va_Qi (fun (r' : Int32) (u : Mem) => r' = z.1 ∧ u = z.2) (Po D cy A G (Fr A G sz)) (Fr A G sz))  0 0 (Fr A G sz) := by
  refine ofB (Qc := fun sz => va_Qi (fun (r' : Int32) (u : Mem) => r' = z.1 ∧ u = z.2) (Po D cy A G (Fr A G sz)) (Fr A G sz)) (by decide +kernel) (Nat.le_of_ble_eq_true rfl) ?_
  intro p e s m below meth c hx hb hr hts hown hlocks hml hmn hK hw ls hl
  have hl : lv_has ls 2 [(0, .ref (A a0)), (1, .int x1)] := hl
  unfold m_X6_state at hm
  revert hw
  suffices K : ∀ (H : Heap) (locs : List Loc), WD D cy (Fr A G s.heap.size) A s.heap G M H locs → W p l e (headSpec (wm yX6_state cX6_state 2 (some .int)) ({ frames := 2, cells := 0, slots := 0, locals := 43 } : Room)).room s m ([.ref (A a0), .int x1] : List Value).toArray below meth c H locs 0 0 (MQ below (va_Qi (fun (r' : Int32) (u : Mem) => r' = z.1 ∧ u = z.2) (Po D cy A G (Fr A G s.heap.size)) (Fr A G s.heap.size)) ([.ref (A a0), .int x1] : List Value).toArray s 0 0 (Fr A G s.heap.size)) (F0 m 0 ls []) from fun hw => K _ _ hw
  intro H locs hw
  refine lv_aload_n hx hb dX6_state_0 rfl (lv_at hl 0 rfl) ?_
  refine lv_aload_n hx hb dX6_state_1 rfl (lv_at hl 0 rfl) ?_
  refine lv_iload_n hx hb dX6_state_2 rfl (lv_at hl 1 rfl) ?_
  obtain ⟨z1, e2, hm⟩ := bd_some hm
  refine ki hw Fr_hi (rV hx hb hml hts hown hK hw (c_X6_isLedger l h0 e2) h0 (by decide) rfl (mkV 1 hts k_ml_RX6_95 k_im_yX6_isLedger k_se_yX6_isLedger k_in_RX6 k_co_yX6_isLedger hd_X6_isLedger ⟨Nat.le_of_ble_eq_true rfl, Nat.le_of_ble_eq_true rfl⟩) rfl hl.1 rfl (Nat.le_of_ble_eq_true rfl) dX6_state_3 ⟨Nat.le_of_ble_eq_true rfl, Nat.le_of_ble_eq_true rfl⟩) (fun H locs hw => ?_)
  refine lv_iconst (v := 1) hx hb dX6_state_6 (by decide) ?_
  refine ki hw Fr_hi (rV hx hb hml hts hown hK hw (c_X6_isFine l h0 z1 1) h0 (by decide) rfl (mkV 2 hts k_ml_RX6_69 k_im_yX6_isFine k_se_yX6_isFine k_in_RX6 k_co_yX6_isFine hd_X6_isFine ⟨Nat.le_of_ble_eq_true rfl, Nat.le_of_ble_eq_true rfl⟩) rfl hl.1 rfl (Nat.le_of_ble_eq_true rfl) dX6_state_7 ⟨Nat.le_of_ble_eq_true rfl, Nat.le_of_ble_eq_true rfl⟩) (fun H locs hw => ?_)
  refine lv_if_eq (tgt := 22) hx hb dX6_state_10 (by decide) (fun hq3 => ?_) (fun hq3 => ?_)
  · have hm := (if_pos hq3).symm.trans hm
    refine lv_iconst (v := 0) hx hb dX6_state_22 (by decide) ?_
    cases hm
    exact eI hx hb hr hlocks hK hw dX6_state_23
  · have hm := (if_neg hq3).symm.trans hm
    refine lv_aload_n hx hb dX6_state_13 rfl (lv_at hl 0 rfl) ?_
    refine lv_iload_n hx hb dX6_state_14 rfl (lv_at hl 1 rfl) ?_
    refine lv_iconst (v := 3) hx hb dX6_state_15 (by decide) ?_
    obtain ⟨z4, e5, hm⟩ := bd_some hm
    refine ki hw Fr_hi (rV hx hb hml hts hown hK hw (c_X6_of l h0 e5) h0 (by decide) rfl (mkV 2 hts k_ml_RX6_31 k_im_yX6_of k_se_yX6_of k_in_RX6 k_co_yX6_of hd_X6_of ⟨Nat.le_of_ble_eq_true rfl, Nat.le_of_ble_eq_true rfl⟩) rfl hl.1 rfl (Nat.le_of_ble_eq_true rfl) dX6_state_16 ⟨Nat.le_of_ble_eq_true rfl, Nat.le_of_ble_eq_true rfl⟩) (fun H locs hw => ?_)
    refine lv_goto (tgt := 23) hx hb dX6_state_19 (by decide) ?_
    cases hm
    exact eI hx hb hr hlocks hK hw dX6_state_23
set_option maxHeartbeats 4000000 in
set_option maxRecDepth 100000 in
theorem c_X6_lastReadable (l : Launch) {D : va_G} {cy : Nat → ClassId} {A : Nat → Nat} {G : Nat → Bool} {M : Mem} {sz : Nat} {a0 : Nat} {x1 : Int32} (h0 : TT G 5 a0)  {z : (Int32 × Mem)} (hm : m_X6_lastReadable a0 x1 M = some z) : Met l yX6_lastReadable (wm yX6_lastReadable cX6_lastReadable 2 (some .int)) ({ frames := 3, cells := 0, slots := 0, locals := 66 } : Room) (va_Pc [.ref (A a0), .int x1] (Pr D cy A G M sz)) (va_Qi (fun (r' : Int32) (u : Mem) => r' = z.1 ∧ u = z.2) (Po D cy A G (Fr A G sz)) (Fr A G sz))  0 0 (Fr A G sz) := by
  refine ofB (Qc := fun sz => va_Qi (fun (r' : Int32) (u : Mem) => r' = z.1 ∧ u = z.2) (Po D cy A G (Fr A G sz)) (Fr A G sz)) (by decide +kernel) (Nat.le_of_ble_eq_true rfl) ?_
  intro p e s m below meth c hx hb hr hts hown hlocks hml hmn hK hw ls hl
  have hl : lv_has ls 2 [(0, .ref (A a0)), (1, .int x1)] := hl
  unfold m_X6_lastReadable at hm
  revert hw
  suffices K : ∀ (H : Heap) (locs : List Loc), WD D cy (Fr A G s.heap.size) A s.heap G M H locs → W p l e (headSpec (wm yX6_lastReadable cX6_lastReadable 2 (some .int)) ({ frames := 3, cells := 0, slots := 0, locals := 66 } : Room)).room s m ([.ref (A a0), .int x1] : List Value).toArray below meth c H locs 0 0 (MQ below (va_Qi (fun (r' : Int32) (u : Mem) => r' = z.1 ∧ u = z.2) (Po D cy A G (Fr A G s.heap.size)) (Fr A G s.heap.size)) ([.ref (A a0), .int x1] : List Value).toArray s 0 0 (Fr A G s.heap.size)) (F0 m 0 ls []) from fun hw => K _ _ hw
  intro H locs hw
  refine lv_aload_n hx hb dX6_lastReadable_0 rfl (lv_at hl 0 rfl) ?_
  refine lv_aload_n hx hb dX6_lastReadable_1 rfl (lv_at hl 0 rfl) ?_
  refine lv_iload_n hx hb dX6_lastReadable_2 rfl (lv_at hl 1 rfl) ?_
  obtain ⟨z1, e2, hm⟩ := bd_some hm
  refine ki hw Fr_hi (rV hx hb hml hts hown hK hw (c_X6_isLedger l h0 e2) h0 (by decide) rfl (mkV 1 hts k_ml_RX6_95 k_im_yX6_isLedger k_se_yX6_isLedger k_in_RX6 k_co_yX6_isLedger hd_X6_isLedger ⟨Nat.le_of_ble_eq_true rfl, Nat.le_of_ble_eq_true rfl⟩) rfl hl.1 rfl (Nat.le_of_ble_eq_true rfl) dX6_lastReadable_3 ⟨Nat.le_of_ble_eq_true rfl, Nat.le_of_ble_eq_true rfl⟩) (fun H locs hw => ?_)
  refine lv_iconst (v := 1) hx hb dX6_lastReadable_6 (by decide) ?_
  refine ki hw Fr_hi (rV hx hb hml hts hown hK hw (c_X6_isFine l h0 z1 1) h0 (by decide) rfl (mkV 2 hts k_ml_RX6_69 k_im_yX6_isFine k_se_yX6_isFine k_in_RX6 k_co_yX6_isFine hd_X6_isFine ⟨Nat.le_of_ble_eq_true rfl, Nat.le_of_ble_eq_true rfl⟩) rfl hl.1 rfl (Nat.le_of_ble_eq_true rfl) dX6_lastReadable_7 ⟨Nat.le_of_ble_eq_true rfl, Nat.le_of_ble_eq_true rfl⟩) (fun H locs hw => ?_)
  refine lv_if_eq (tgt := 21) hx hb dX6_lastReadable_10 (by decide) (fun hq3 => ?_) (fun hq3 => ?_)
  · have hm := (if_pos hq3).symm.trans hm
    refine lv_iconst (v := 0) hx hb dX6_lastReadable_21 (by decide) ?_
    cases hm
    exact eI hx hb hr hlocks hK hw dX6_lastReadable_22
  · have hm := (if_neg hq3).symm.trans hm
    refine lv_aload_n hx hb dX6_lastReadable_13 rfl (lv_at hl 0 rfl) ?_
    refine lv_iload_n hx hb dX6_lastReadable_14 rfl (lv_at hl 1 rfl) ?_
    obtain ⟨z4, e5, hm⟩ := bd_some hm
    refine ki hw Fr_hi (rV hx hb hml hts hown hK hw (c_X6_readable l h0 e5) h0 (by decide) rfl (mkV 1 hts k_ml_RX6_139 k_im_yX6_readable k_se_yX6_readable k_in_RX6 k_co_yX6_readable hd_X6_readable ⟨Nat.le_of_ble_eq_true rfl, Nat.le_of_ble_eq_true rfl⟩) rfl hl.1 rfl (Nat.le_of_ble_eq_true rfl) dX6_lastReadable_15 ⟨Nat.le_of_ble_eq_true rfl, Nat.le_of_ble_eq_true rfl⟩) (fun H locs hw => ?_)
    refine lv_goto (tgt := 22) hx hb dX6_lastReadable_18 (by decide) ?_
    cases hm
    exact eI hx hb hr hlocks hK hw dX6_lastReadable_22
set_option maxHeartbeats 4000000 in
set_option maxRecDepth 100000 in
theorem c_X6_appended (l : Launch) {D : va_G} {cy : Nat → ClassId} {A : Nat → Nat} {G : Nat → Bool} {M : Mem} {sz : Nat} {a0 : Nat} {x1 : Int32} (h0 : TT G 5 a0)  {z : (Int32 × Mem)} (hm : m_X6_appended a0 x1 M = some z) : Met l yX6_appended (wm yX6_appended cX6_appended 2 (some .int)) ({ frames := 2, cells := 0, slots := 0, locals := 43 } : Room) (va_Pc [.ref (A a0), .int x1] (Pr D cy A G M sz)) (va_Qi (fun (r' : Int32) (u : Mem) => r' = z.1 ∧ u = z.2) (Po D cy A G (Fr A G sz)) (Fr A G sz))  0 0 (Fr A G sz) := by
  refine ofB (Qc := fun sz => va_Qi (fun (r' : Int32) (u : Mem) => r' = z.1 ∧ u = z.2) (Po D cy A G (Fr A G sz)) (Fr A G sz)) (by decide +kernel) (Nat.le_of_ble_eq_true rfl) ?_
  intro p e s m below meth c hx hb hr hts hown hlocks hml hmn hK hw ls hl
  have hl : lv_has ls 2 [(0, .ref (A a0)), (1, .int x1)] := hl
  unfold m_X6_appended at hm
  revert hw
  suffices K : ∀ (H : Heap) (locs : List Loc), WD D cy (Fr A G s.heap.size) A s.heap G M H locs → W p l e (headSpec (wm yX6_appended cX6_appended 2 (some .int)) ({ frames := 2, cells := 0, slots := 0, locals := 43 } : Room)).room s m ([.ref (A a0), .int x1] : List Value).toArray below meth c H locs 0 0 (MQ below (va_Qi (fun (r' : Int32) (u : Mem) => r' = z.1 ∧ u = z.2) (Po D cy A G (Fr A G s.heap.size)) (Fr A G s.heap.size)) ([.ref (A a0), .int x1] : List Value).toArray s 0 0 (Fr A G s.heap.size)) (F0 m 0 ls []) from fun hw => K _ _ hw
  intro H locs hw
  refine lv_aload_n hx hb dX6_appended_0 rfl (lv_at hl 0 rfl) ?_
  refine lv_aload_n hx hb dX6_appended_1 rfl (lv_at hl 0 rfl) ?_
  refine lv_iload_n hx hb dX6_appended_2 rfl (lv_at hl 1 rfl) ?_
  obtain ⟨z1, e2, hm⟩ := bd_some hm
  refine ki hw Fr_hi (rV hx hb hml hts hown hK hw (c_X6_isLedger l h0 e2) h0 (by decide) rfl (mkV 1 hts k_ml_RX6_95 k_im_yX6_isLedger k_se_yX6_isLedger k_in_RX6 k_co_yX6_isLedger hd_X6_isLedger ⟨Nat.le_of_ble_eq_true rfl, Nat.le_of_ble_eq_true rfl⟩) rfl hl.1 rfl (Nat.le_of_ble_eq_true rfl) dX6_appended_3 ⟨Nat.le_of_ble_eq_true rfl, Nat.le_of_ble_eq_true rfl⟩) (fun H locs hw => ?_)
  refine lv_iconst (v := 1) hx hb dX6_appended_6 (by decide) ?_
  refine ki hw Fr_hi (rV hx hb hml hts hown hK hw (c_X6_isFine l h0 z1 1) h0 (by decide) rfl (mkV 2 hts k_ml_RX6_69 k_im_yX6_isFine k_se_yX6_isFine k_in_RX6 k_co_yX6_isFine hd_X6_isFine ⟨Nat.le_of_ble_eq_true rfl, Nat.le_of_ble_eq_true rfl⟩) rfl hl.1 rfl (Nat.le_of_ble_eq_true rfl) dX6_appended_7 ⟨Nat.le_of_ble_eq_true rfl, Nat.le_of_ble_eq_true rfl⟩) (fun H locs hw => ?_)
  refine lv_if_eq (tgt := 22) hx hb dX6_appended_10 (by decide) (fun hq3 => ?_) (fun hq3 => ?_)
  · have hm := (if_pos hq3).symm.trans hm
    refine lv_iconst (v := 0) hx hb dX6_appended_22 (by decide) ?_
    cases hm
    exact eI hx hb hr hlocks hK hw dX6_appended_23
  · have hm := (if_neg hq3).symm.trans hm
    refine lv_aload_n hx hb dX6_appended_13 rfl (lv_at hl 0 rfl) ?_
    refine lv_iload_n hx hb dX6_appended_14 rfl (lv_at hl 1 rfl) ?_
    refine lv_iconst (v := 4) hx hb dX6_appended_15 (by decide) ?_
    obtain ⟨z4, e5, hm⟩ := bd_some hm
    refine ki hw Fr_hi (rV hx hb hml hts hown hK hw (c_X6_of l h0 e5) h0 (by decide) rfl (mkV 2 hts k_ml_RX6_31 k_im_yX6_of k_se_yX6_of k_in_RX6 k_co_yX6_of hd_X6_of ⟨Nat.le_of_ble_eq_true rfl, Nat.le_of_ble_eq_true rfl⟩) rfl hl.1 rfl (Nat.le_of_ble_eq_true rfl) dX6_appended_16 ⟨Nat.le_of_ble_eq_true rfl, Nat.le_of_ble_eq_true rfl⟩) (fun H locs hw => ?_)
    refine lv_goto (tgt := 23) hx hb dX6_appended_19 (by decide) ?_
    cases hm
    exact eI hx hb hr hlocks hK hw dX6_appended_23
set_option maxHeartbeats 4000000 in
set_option maxRecDepth 100000 in
theorem c_X6_isEntry (l : Launch) {D : va_G} {cy : Nat → ClassId} {A : Nat → Nat} {G : Nat → Bool} {M : Mem} {sz : Nat} {a0 : Nat} {x1 : Int32} {x2 : Int32} (h0 : TT G 5 a0)  {z : Int32} (hm : m_X6_isEntry a0 x1 x2 M = some z) : Met l yX6_isEntry (wm yX6_isEntry cX6_isEntry 3 (some .boolean)) ({ frames := 2, cells := 0, slots := 0, locals := 43 } : Room) (va_Pc [.ref (A a0), .int x1, .int x2] (Pr D cy A G M sz)) (va_Qi (fun (r' : Int32) (u : Mem) => r' = z ∧ u = M) (Po D cy A G (Fr A G sz)) (Fr A G sz))  0 0 (Fr A G sz) := by
  refine ofB (Qc := fun sz => va_Qi (fun (r' : Int32) (u : Mem) => r' = z ∧ u = M) (Po D cy A G (Fr A G sz)) (Fr A G sz)) (by decide +kernel) (Nat.le_of_ble_eq_true rfl) ?_
  intro p e s m below meth c hx hb hr hts hown hlocks hml hmn hK hw ls hl
  have hl : lv_has ls 3 [(0, .ref (A a0)), (1, .int x1), (2, .int x2)] := hl
  unfold m_X6_isEntry at hm
  revert hw
  suffices K : ∀ (H : Heap) (locs : List Loc), WD D cy (Fr A G s.heap.size) A s.heap G M H locs → W p l e (headSpec (wm yX6_isEntry cX6_isEntry 3 (some .boolean)) ({ frames := 2, cells := 0, slots := 0, locals := 43 } : Room)).room s m ([.ref (A a0), .int x1, .int x2] : List Value).toArray below meth c H locs 0 0 (MQ below (va_Qi (fun (r' : Int32) (u : Mem) => r' = z ∧ u = M) (Po D cy A G (Fr A G s.heap.size)) (Fr A G s.heap.size)) ([.ref (A a0), .int x1, .int x2] : List Value).toArray s 0 0 (Fr A G s.heap.size)) (F0 m 0 ls []) from fun hw => K _ _ hw
  intro H locs hw
  refine lv_aload_n hx hb dX6_isEntry_0 rfl (lv_at hl 0 rfl) ?_
  refine lv_iload_n hx hb dX6_isEntry_1 rfl (lv_at hl 1 rfl) ?_
  obtain ⟨z1, e2, hm⟩ := bd_some hm
  refine ki hw Fr_hi (rV hx hb hml hts hown hK hw (c_X6_isLedger l h0 e2) h0 (by decide) rfl (mkV 1 hts k_ml_RX6_95 k_im_yX6_isLedger k_se_yX6_isLedger k_in_RX6 k_co_yX6_isLedger hd_X6_isLedger ⟨Nat.le_of_ble_eq_true rfl, Nat.le_of_ble_eq_true rfl⟩) rfl hl.1 rfl (Nat.le_of_ble_eq_true rfl) dX6_isEntry_2 ⟨Nat.le_of_ble_eq_true rfl, Nat.le_of_ble_eq_true rfl⟩) (fun H locs hw => ?_)
  refine lv_if_eq (tgt := 28) hx hb dX6_isEntry_5 (by decide) (fun hq3 => ?_) (fun hq3 => ?_)
  · have hm := (if_pos hq3).symm.trans hm
    refine lv_iconst (v := 0) hx hb dX6_isEntry_28 (by decide) ?_
    cases hm
    exact eZ (show zb 0 by decide) hx hb hr hlocks hK hw dX6_isEntry_29
  · have hm := (if_neg hq3).symm.trans hm
    refine lv_iload_n hx hb dX6_isEntry_8 rfl (lv_at hl 2 rfl) ?_
    refine lv_iconst (v := 0) hx hb dX6_isEntry_9 (by decide) ?_
    refine lv_aload_n hx hb dX6_isEntry_10 rfl (lv_at hl 0 rfl) ?_
    refine lv_iload_n hx hb dX6_isEntry_11 rfl (lv_at hl 1 rfl) ?_
    refine lv_iconst (v := 4) hx hb dX6_isEntry_12 (by decide) ?_
    obtain ⟨z4, e5, hm⟩ := bd_some hm
    refine ki hw Fr_hi (rV hx hb hml hts hown hK hw (c_X6_of l h0 e5) h0 (by decide) rfl (mkV 2 hts k_ml_RX6_31 k_im_yX6_of k_se_yX6_of k_in_RX6 k_co_yX6_of hd_X6_of ⟨Nat.le_of_ble_eq_true rfl, Nat.le_of_ble_eq_true rfl⟩) rfl hl.1 rfl (Nat.le_of_ble_eq_true rfl) dX6_isEntry_13 ⟨Nat.le_of_ble_eq_true rfl, Nat.le_of_ble_eq_true rfl⟩) (fun H locs hw => ?_)
    refine lv_iconst (v := 1) hx hb dX6_isEntry_16 (by decide) ?_
    refine lv_isub hx hb dX6_isEntry_17 ?_
    refine ki hw Fr_hi (rS hx hb hml hts hown hK hw (c_X6_in l x2 0 (z4 - 1)) (mkS 3 hts k_ml_RX6_23 k_st_yX6_in k_in_RX6 k_co_yX6_in hd_X6_in ⟨Nat.le_of_ble_eq_true rfl, Nat.le_of_ble_eq_true rfl⟩) rfl hl.1 rfl (Nat.le_of_ble_eq_true rfl) dX6_isEntry_18 ⟨Nat.le_of_ble_eq_true rfl, Nat.le_of_ble_eq_true rfl⟩) (fun H locs hw => ?_)
    refine lv_if_eq (tgt := 28) hx hb dX6_isEntry_21 (by decide) (fun hq6 => ?_) (fun hq6 => ?_)
    · have hm := (if_pos hq6).symm.trans hm
      refine lv_iconst (v := 0) hx hb dX6_isEntry_28 (by decide) ?_
      cases hm
      exact eZ (show zb 0 by decide) hx hb hr hlocks hK hw dX6_isEntry_29
    · have hm := (if_neg hq6).symm.trans hm
      refine lv_iconst (v := 1) hx hb dX6_isEntry_24 (by decide) ?_
      refine lv_goto (tgt := 29) hx hb dX6_isEntry_25 (by decide) ?_
      cases hm
      exact eZ (show zb 1 by decide) hx hb hr hlocks hK hw dX6_isEntry_29
set_option maxHeartbeats 4000000 in
set_option maxRecDepth 100000 in
theorem c_X6_acknowledgements (l : Launch) {D : va_G} {cy : Nat → ClassId} {A : Nat → Nat} {G : Nat → Bool} {M : Mem} {sz : Nat} {a0 : Nat} {x1 : Int32} {x2 : Int32} (h0 : TT G 5 a0)  {z : (Int32 × Mem)} (hm : m_X6_acknowledgements a0 x1 x2 M = some z) : Met l yX6_acknowledgements (wm yX6_acknowledgements cX6_acknowledgements 3 (some .int)) ({ frames := 3, cells := 0, slots := 0, locals := 65 } : Room) (va_Pc [.ref (A a0), .int x1, .int x2] (Pr D cy A G M sz)) (va_Qi (fun (r' : Int32) (u : Mem) => r' = z.1 ∧ u = z.2) (Po D cy A G (Fr A G sz)) (Fr A G sz))  0 0 (Fr A G sz) := by
  refine ofB (Qc := fun sz => va_Qi (fun (r' : Int32) (u : Mem) => r' = z.1 ∧ u = z.2) (Po D cy A G (Fr A G sz)) (Fr A G sz)) (by decide +kernel) (Nat.le_of_ble_eq_true rfl) ?_
  intro p e s m below meth c hx hb hr hts hown hlocks hml hmn hK hw ls hl
  have hl : lv_has ls 3 [(0, .ref (A a0)), (1, .int x1), (2, .int x2)] := hl
  unfold m_X6_acknowledgements at hm
  revert hw
  suffices K : ∀ (H : Heap) (locs : List Loc), WD D cy (Fr A G s.heap.size) A s.heap G M H locs → W p l e (headSpec (wm yX6_acknowledgements cX6_acknowledgements 3 (some .int)) ({ frames := 3, cells := 0, slots := 0, locals := 65 } : Room)).room s m ([.ref (A a0), .int x1, .int x2] : List Value).toArray below meth c H locs 0 0 (MQ below (va_Qi (fun (r' : Int32) (u : Mem) => r' = z.1 ∧ u = z.2) (Po D cy A G (Fr A G s.heap.size)) (Fr A G s.heap.size)) ([.ref (A a0), .int x1, .int x2] : List Value).toArray s 0 0 (Fr A G s.heap.size)) (F0 m 0 ls []) from fun hw => K _ _ hw
  intro H locs hw
  refine lv_aload_n hx hb dX6_acknowledgements_0 rfl (lv_at hl 0 rfl) ?_
  refine lv_aload_n hx hb dX6_acknowledgements_1 rfl (lv_at hl 0 rfl) ?_
  refine lv_iload_n hx hb dX6_acknowledgements_2 rfl (lv_at hl 1 rfl) ?_
  refine lv_iload_n hx hb dX6_acknowledgements_3 rfl (lv_at hl 2 rfl) ?_
  obtain ⟨z1, e2, hm⟩ := bd_some hm
  refine ki hw Fr_hi (rV hx hb hml hts hown hK hw (c_X6_isEntry l h0 e2) h0 (by decide) rfl (mkV 2 hts k_ml_RX6_142 k_im_yX6_isEntry k_se_yX6_isEntry k_in_RX6 k_co_yX6_isEntry hd_X6_isEntry ⟨Nat.le_of_ble_eq_true rfl, Nat.le_of_ble_eq_true rfl⟩) rfl hl.1 rfl (Nat.le_of_ble_eq_true rfl) dX6_acknowledgements_4 ⟨Nat.le_of_ble_eq_true rfl, Nat.le_of_ble_eq_true rfl⟩) (fun H locs hw => ?_)
  refine lv_iconst (v := 1) hx hb dX6_acknowledgements_7 (by decide) ?_
  refine ki hw Fr_hi (rV hx hb hml hts hown hK hw (c_X6_isFine l h0 z1 1) h0 (by decide) rfl (mkV 2 hts k_ml_RX6_69 k_im_yX6_isFine k_se_yX6_isFine k_in_RX6 k_co_yX6_isFine hd_X6_isFine ⟨Nat.le_of_ble_eq_true rfl, Nat.le_of_ble_eq_true rfl⟩) rfl hl.1 rfl (Nat.le_of_ble_eq_true rfl) dX6_acknowledgements_8 ⟨Nat.le_of_ble_eq_true rfl, Nat.le_of_ble_eq_true rfl⟩) (fun H locs hw => ?_)
  refine lv_if_eq (tgt := 29) hx hb dX6_acknowledgements_11 (by decide) (fun hq3 => ?_) (fun hq3 => ?_)
  · have hm := (if_pos hq3).symm.trans hm
    refine lv_iconst (v := 0) hx hb dX6_acknowledgements_29 (by decide) ?_
    cases hm
    exact eI hx hb hr hlocks hK hw dX6_acknowledgements_30
  · have hm := (if_neg hq3).symm.trans hm
    refine lv_aload_n hx hb dX6_acknowledgements_14 rfl (lv_at hl 0 rfl) ?_
    refine lv_iload_n hx hb dX6_acknowledgements_15 rfl (lv_at hl 1 rfl) ?_
    refine lv_bipush (v := 47) hx hb dX6_acknowledgements_16 (by decide) ?_
    refine lv_iload_n hx hb dX6_acknowledgements_18 rfl (lv_at hl 2 rfl) ?_
    refine lv_iadd hx hb dX6_acknowledgements_19 ?_
    obtain ⟨z4, e5, hm⟩ := bd_some hm
    refine ki hw Fr_hi (rV hx hb hml hts hown hK hw (c_X6_of l h0 e5) h0 (by decide) rfl (mkV 2 hts k_ml_RX6_31 k_im_yX6_of k_se_yX6_of k_in_RX6 k_co_yX6_of hd_X6_of ⟨Nat.le_of_ble_eq_true rfl, Nat.le_of_ble_eq_true rfl⟩) rfl hl.1 rfl (Nat.le_of_ble_eq_true rfl) dX6_acknowledgements_20 ⟨Nat.le_of_ble_eq_true rfl, Nat.le_of_ble_eq_true rfl⟩) (fun H locs hw => ?_)
    obtain ⟨z6, e7, hm⟩ := bd_some hm
    refine ki hw Fr_hi (rS hx hb hml hts hown hK hw (c_X6_count l e7) (mkS 1 hts k_ml_RX6_57 k_st_yX6_count k_in_RX6 k_co_yX6_count hd_X6_count ⟨Nat.le_of_ble_eq_true rfl, Nat.le_of_ble_eq_true rfl⟩) rfl hl.1 rfl (Nat.le_of_ble_eq_true rfl) dX6_acknowledgements_23 ⟨Nat.le_of_ble_eq_true rfl, Nat.le_of_ble_eq_true rfl⟩) (fun H locs hw => ?_)
    refine lv_goto (tgt := 30) hx hb dX6_acknowledgements_26 (by decide) ?_
    cases hm
    exact eI hx hb hr hlocks hK hw dX6_acknowledgements_30
set_option maxHeartbeats 4000000 in
set_option maxRecDepth 100000 in
theorem c_X6_holding (l : Launch) {D : va_G} {cy : Nat → ClassId} {A : Nat → Nat} {G : Nat → Bool} {M : Mem} {sz : Nat} {a0 : Nat} {x1 : Int32} {x2 : Int32} (h0 : TT G 5 a0)  {z : Int32} (hm : m_X6_holding a0 x1 x2 M = some z) : Met l yX6_holding (wm yX6_holding cX6_holding 5 (some .int)) ({ frames := 2, cells := 0, slots := 0, locals := 45 } : Room) (va_Pc [.ref (A a0), .int x1, .int x2] (Pr D cy A G M sz)) (va_Qi (fun (r' : Int32) (u : Mem) => r' = z ∧ u = M) (Po D cy A G (Fr A G sz)) (Fr A G sz))  0 0 (Fr A G sz) := by
  refine ofB (Qc := fun sz => va_Qi (fun (r' : Int32) (u : Mem) => r' = z ∧ u = M) (Po D cy A G (Fr A G sz)) (Fr A G sz)) (by decide +kernel) (Nat.le_of_ble_eq_true rfl) ?_
  intro p e s m below meth c hx hb hr hts hown hlocks hml hmn hK hw ls hl
  have hl : lv_has ls 5 [(0, .ref (A a0)), (1, .int x1), (2, .int x2)] := hl
  have J5 : ∀  (n : Nat) (v3 : Int32) (v4 : Int32), m_X6_holding_L5 a0 x1 x2 M n v3 v4 = some z → ∀ (H : Heap) (locs : List Loc), WD D cy (Fr A G s.heap.size) A s.heap G M H locs → ∀ ls : Array Slot, lv_has ls 5 [(0, .ref (A a0)), (1, .int x1), (2, .int x2), (3, .int v3), (4, .int v4)] → W p l e (headSpec (wm yX6_holding cX6_holding 5 (some .int)) ({ frames := 2, cells := 0, slots := 0, locals := 45 } : Room)).room s m ([.ref (A a0), .int x1, .int x2] : List Value).toArray below meth c H locs 0 0 (MQ below (va_Qi (fun (r' : Int32) (u : Mem) => r' = z ∧ u = M) (Po D cy A G (Fr A G s.heap.size)) (Fr A G s.heap.size)) ([.ref (A a0), .int x1, .int x2] : List Value).toArray s 0 0 (Fr A G s.heap.size)) (F0 m 5 ls []) := by
    intro n
    induction n with
    | zero =>
      intro v3 v4 hm
      cases (show (none : Option Int32) = some z from hm)
    | succ n ih =>
      intro v3 v4 hm H locs hw ls hl
      have hm := (m_X6_holding_L5_s a0 x1 x2 M n v3 v4).symm.trans hm
      refine lv_iload hx hb dX6_holding_5 (lv_at hl 4 rfl) ?_
      refine lv_aload_n hx hb dX6_holding_7 rfl (lv_at hl 0 rfl) ?_
      refine g5 hx hb hts hown hK hw h0 0 (by decide) (.ref (A 4)) rfl k_fl_RX6_7 (fun _ h => h) dX6_holding_8 ?_
      have hp1 := mo_s h0
      refine lv_iconst (v := 0) hx hb dX6_holding_11 (by decide) ?_
      obtain ⟨hi2, hm⟩ := ck_some hm
      refine gI hx hb hK hw hp1 hi2 dX6_holding_12 ?_
      refine lv_icmp_ge (tgt := 44) hx hb dX6_holding_13 (by decide) (fun hq3 => ?_) (fun hq3 => ?_)
      · have hm := (if_pos hq3).symm.trans hm
        refine lv_iload_n hx hb dX6_holding_44 rfl (lv_at hl 3 rfl) ?_
        cases hm
        exact eI hx hb hr hlocks hK hw dX6_holding_45
      · have hm := (if_neg hq3).symm.trans hm
        refine lv_iload_n hx hb dX6_holding_16 rfl (lv_at hl 3 rfl) ?_
        refine lv_aload_n hx hb dX6_holding_17 rfl (lv_at hl 0 rfl) ?_
        refine lv_iload hx hb dX6_holding_18 (lv_at hl 4 rfl) ?_
        refine lv_iload_n hx hb dX6_holding_20 rfl (lv_at hl 1 rfl) ?_
        refine lv_iload_n hx hb dX6_holding_21 rfl (lv_at hl 2 rfl) ?_
        obtain ⟨z4, e5, hm⟩ := bd_some hm
        refine ki hw Fr_hi (rV hx hb hml hts hown hK hw (c_X6_stores l h0 e5) h0 (by decide) rfl (mkV 3 hts k_ml_RX6_112 k_im_yX6_stores k_se_yX6_stores k_in_RX6 k_co_yX6_stores hd_X6_stores ⟨Nat.le_of_ble_eq_true rfl, Nat.le_of_ble_eq_true rfl⟩) rfl hl.1 rfl (Nat.le_of_ble_eq_true rfl) dX6_holding_22 ⟨Nat.le_of_ble_eq_true rfl, Nat.le_of_ble_eq_true rfl⟩) (fun H locs hw => ?_)
        refine lv_if_eq (tgt := 35) hx hb dX6_holding_25 (by decide) (fun hq6 => ?_) (fun hq6 => ?_)
        · have hm := (if_pos hq6).symm.trans hm
          refine lv_iconst (v := 0) hx hb dX6_holding_35 (by decide) ?_
          refine lv_ior hx hb dX6_holding_36 ?_
          refine lv_istore_n (lv' := [(3, .int (v3 ||| 0)), (0, .ref (A a0)), (1, .int x1), (2, .int x2), (4, .int v4)]) hx hb dX6_holding_37 rfl hl (by decide) rfl (fun ls hl => ?_)
          refine lv_iinc (v := (v4 + 1)) (lv' := [(4, .int (v4 + 1)), (3, .int (v3 ||| 0)), (0, .ref (A a0)), (1, .int x1), (2, .int x2)]) hx hb dX6_holding_38 hl (k := 4) rfl rfl (by decide) rfl (fun ls hl => ?_)
          refine lv_goto (tgt := 5) hx hb dX6_holding_41 (by decide) ?_
          exact ih (v3 ||| 0) (v4 + 1) hm H locs hw ls (lv_sub hl [2, 3, 4, 1, 0] rfl)
        · have hm := (if_neg hq6).symm.trans hm
          refine lv_iconst (v := 1) hx hb dX6_holding_28 (by decide) ?_
          refine lv_iload hx hb dX6_holding_29 (lv_at hl 4 rfl) ?_
          refine lv_ishl hx hb dX6_holding_31 ?_
          refine lv_goto (tgt := 36) hx hb dX6_holding_32 (by decide) ?_
          refine lv_ior hx hb dX6_holding_36 ?_
          refine lv_istore_n (lv' := [(3, .int (v3 ||| (1 <<< (v4 &&& 31)))), (0, .ref (A a0)), (1, .int x1), (2, .int x2), (4, .int v4)]) hx hb dX6_holding_37 rfl hl (by decide) rfl (fun ls hl => ?_)
          refine lv_iinc (v := (v4 + 1)) (lv' := [(4, .int (v4 + 1)), (3, .int (v3 ||| (1 <<< (v4 &&& 31)))), (0, .ref (A a0)), (1, .int x1), (2, .int x2)]) hx hb dX6_holding_38 hl (k := 4) rfl rfl (by decide) rfl (fun ls hl => ?_)
          refine lv_goto (tgt := 5) hx hb dX6_holding_41 (by decide) ?_
          exact ih (v3 ||| (1 <<< (v4 &&& 31))) (v4 + 1) hm H locs hw ls (lv_sub hl [2, 3, 4, 1, 0] rfl)
  unfold m_X6_holding at hm
  revert hw
  suffices K : ∀ (H : Heap) (locs : List Loc), WD D cy (Fr A G s.heap.size) A s.heap G M H locs → W p l e (headSpec (wm yX6_holding cX6_holding 5 (some .int)) ({ frames := 2, cells := 0, slots := 0, locals := 45 } : Room)).room s m ([.ref (A a0), .int x1, .int x2] : List Value).toArray below meth c H locs 0 0 (MQ below (va_Qi (fun (r' : Int32) (u : Mem) => r' = z ∧ u = M) (Po D cy A G (Fr A G s.heap.size)) (Fr A G s.heap.size)) ([.ref (A a0), .int x1, .int x2] : List Value).toArray s 0 0 (Fr A G s.heap.size)) (F0 m 0 ls []) from fun hw => K _ _ hw
  intro H locs hw
  refine lv_iconst (v := 0) hx hb dX6_holding_0 (by decide) ?_
  refine lv_istore_n (lv' := [(3, .int 0), (0, .ref (A a0)), (1, .int x1), (2, .int x2)]) hx hb dX6_holding_1 rfl hl (by decide) rfl (fun ls hl => ?_)
  refine lv_iconst (v := 0) hx hb dX6_holding_2 (by decide) ?_
  refine lv_istore (lv' := [(4, .int 0), (3, .int 0), (0, .ref (A a0)), (1, .int x1), (2, .int x2)]) hx hb dX6_holding_3 hl (by decide) rfl (fun ls hl => ?_)
  exact J5 fuel 0 0 hm H locs hw ls (lv_sub hl [2, 3, 4, 1, 0] rfl)
set_option maxHeartbeats 4000000 in
set_option maxRecDepth 100000 in
theorem c_X6_holders (l : Launch) {D : va_G} {cy : Nat → ClassId} {A : Nat → Nat} {G : Nat → Bool} {M : Mem} {sz : Nat} {a0 : Nat} {x1 : Int32} {x2 : Int32} (h0 : TT G 5 a0)  {z : (Int32 × Mem)} (hm : m_X6_holders a0 x1 x2 M = some z) : Met l yX6_holders (wm yX6_holders cX6_holders 3 (some .int)) ({ frames := 3, cells := 0, slots := 0, locals := 69 } : Room) (va_Pc [.ref (A a0), .int x1, .int x2] (Pr D cy A G M sz)) (va_Qi (fun (r' : Int32) (u : Mem) => r' = z.1 ∧ u = z.2) (Po D cy A G (Fr A G sz)) (Fr A G sz))  0 0 (Fr A G sz) := by
  refine ofB (Qc := fun sz => va_Qi (fun (r' : Int32) (u : Mem) => r' = z.1 ∧ u = z.2) (Po D cy A G (Fr A G sz)) (Fr A G sz)) (by decide +kernel) (Nat.le_of_ble_eq_true rfl) ?_
  intro p e s m below meth c hx hb hr hts hown hlocks hml hmn hK hw ls hl
  have hl : lv_has ls 3 [(0, .ref (A a0)), (1, .int x1), (2, .int x2)] := hl
  unfold m_X6_holders at hm
  revert hw
  suffices K : ∀ (H : Heap) (locs : List Loc), WD D cy (Fr A G s.heap.size) A s.heap G M H locs → W p l e (headSpec (wm yX6_holders cX6_holders 3 (some .int)) ({ frames := 3, cells := 0, slots := 0, locals := 69 } : Room)).room s m ([.ref (A a0), .int x1, .int x2] : List Value).toArray below meth c H locs 0 0 (MQ below (va_Qi (fun (r' : Int32) (u : Mem) => r' = z.1 ∧ u = z.2) (Po D cy A G (Fr A G s.heap.size)) (Fr A G s.heap.size)) ([.ref (A a0), .int x1, .int x2] : List Value).toArray s 0 0 (Fr A G s.heap.size)) (F0 m 0 ls []) from fun hw => K _ _ hw
  intro H locs hw
  refine lv_aload_n hx hb dX6_holders_0 rfl (lv_at hl 0 rfl) ?_
  refine lv_aload_n hx hb dX6_holders_1 rfl (lv_at hl 0 rfl) ?_
  refine lv_iload_n hx hb dX6_holders_2 rfl (lv_at hl 1 rfl) ?_
  refine lv_iload_n hx hb dX6_holders_3 rfl (lv_at hl 2 rfl) ?_
  obtain ⟨z1, e2, hm⟩ := bd_some hm
  refine ki hw Fr_hi (rV hx hb hml hts hown hK hw (c_X6_isEntry l h0 e2) h0 (by decide) rfl (mkV 2 hts k_ml_RX6_142 k_im_yX6_isEntry k_se_yX6_isEntry k_in_RX6 k_co_yX6_isEntry hd_X6_isEntry ⟨Nat.le_of_ble_eq_true rfl, Nat.le_of_ble_eq_true rfl⟩) rfl hl.1 rfl (Nat.le_of_ble_eq_true rfl) dX6_holders_4 ⟨Nat.le_of_ble_eq_true rfl, Nat.le_of_ble_eq_true rfl⟩) (fun H locs hw => ?_)
  refine lv_iconst (v := 1) hx hb dX6_holders_7 (by decide) ?_
  refine ki hw Fr_hi (rV hx hb hml hts hown hK hw (c_X6_isFine l h0 z1 1) h0 (by decide) rfl (mkV 2 hts k_ml_RX6_69 k_im_yX6_isFine k_se_yX6_isFine k_in_RX6 k_co_yX6_isFine hd_X6_isFine ⟨Nat.le_of_ble_eq_true rfl, Nat.le_of_ble_eq_true rfl⟩) rfl hl.1 rfl (Nat.le_of_ble_eq_true rfl) dX6_holders_8 ⟨Nat.le_of_ble_eq_true rfl, Nat.le_of_ble_eq_true rfl⟩) (fun H locs hw => ?_)
  refine lv_if_eq (tgt := 23) hx hb dX6_holders_11 (by decide) (fun hq3 => ?_) (fun hq3 => ?_)
  · have hm := (if_pos hq3).symm.trans hm
    refine lv_iconst (v := 0) hx hb dX6_holders_23 (by decide) ?_
    cases hm
    exact eI hx hb hr hlocks hK hw dX6_holders_24
  · have hm := (if_neg hq3).symm.trans hm
    refine lv_aload_n hx hb dX6_holders_14 rfl (lv_at hl 0 rfl) ?_
    refine lv_iload_n hx hb dX6_holders_15 rfl (lv_at hl 1 rfl) ?_
    refine lv_iload_n hx hb dX6_holders_16 rfl (lv_at hl 2 rfl) ?_
    obtain ⟨z4, e5, hm⟩ := bd_some hm
    refine ki hw Fr_hi (rV hx hb hml hts hown hK hw (c_X6_holding l h0 e5) h0 (by decide) rfl (mkV 2 hts k_ml_RX6_145 k_im_yX6_holding k_se_yX6_holding k_in_RX6 k_co_yX6_holding hd_X6_holding ⟨Nat.le_of_ble_eq_true rfl, Nat.le_of_ble_eq_true rfl⟩) rfl hl.1 rfl (Nat.le_of_ble_eq_true rfl) dX6_holders_17 ⟨Nat.le_of_ble_eq_true rfl, Nat.le_of_ble_eq_true rfl⟩) (fun H locs hw => ?_)
    refine lv_goto (tgt := 24) hx hb dX6_holders_20 (by decide) ?_
    cases hm
    exact eI hx hb hr hlocks hK hw dX6_holders_24
set_option maxHeartbeats 4000000 in
set_option maxRecDepth 100000 in
theorem c_X6_fragmentCount (l : Launch) {D : va_G} {cy : Nat → ClassId} {A : Nat → Nat} {G : Nat → Bool} {M : Mem} {sz : Nat} {a0 : Nat} {x1 : Int32} (h0 : TT G 5 a0)  {z : (Int32 × Mem)} (hm : m_X6_fragmentCount a0 x1 M = some z) : Met l yX6_fragmentCount (wm yX6_fragmentCount cX6_fragmentCount 2 (some .int)) ({ frames := 2, cells := 0, slots := 0, locals := 43 } : Room) (va_Pc [.ref (A a0), .int x1] (Pr D cy A G M sz)) (va_Qi (fun (r' : Int32) (u : Mem) => r' = z.1 ∧ u = z.2) (Po D cy A G (Fr A G sz)) (Fr A G sz))  0 0 (Fr A G sz) := by
  refine ofB (Qc := fun sz => va_Qi (fun (r' : Int32) (u : Mem) => r' = z.1 ∧ u = z.2) (Po D cy A G (Fr A G sz)) (Fr A G sz)) (by decide +kernel) (Nat.le_of_ble_eq_true rfl) ?_
  intro p e s m below meth c hx hb hr hts hown hlocks hml hmn hK hw ls hl
  have hl : lv_has ls 2 [(0, .ref (A a0)), (1, .int x1)] := hl
  unfold m_X6_fragmentCount at hm
  revert hw
  suffices K : ∀ (H : Heap) (locs : List Loc), WD D cy (Fr A G s.heap.size) A s.heap G M H locs → W p l e (headSpec (wm yX6_fragmentCount cX6_fragmentCount 2 (some .int)) ({ frames := 2, cells := 0, slots := 0, locals := 43 } : Room)).room s m ([.ref (A a0), .int x1] : List Value).toArray below meth c H locs 0 0 (MQ below (va_Qi (fun (r' : Int32) (u : Mem) => r' = z.1 ∧ u = z.2) (Po D cy A G (Fr A G s.heap.size)) (Fr A G s.heap.size)) ([.ref (A a0), .int x1] : List Value).toArray s 0 0 (Fr A G s.heap.size)) (F0 m 0 ls []) from fun hw => K _ _ hw
  intro H locs hw
  refine lv_aload_n hx hb dX6_fragmentCount_0 rfl (lv_at hl 0 rfl) ?_
  refine lv_aload_n hx hb dX6_fragmentCount_1 rfl (lv_at hl 0 rfl) ?_
  refine lv_iload_n hx hb dX6_fragmentCount_2 rfl (lv_at hl 1 rfl) ?_
  obtain ⟨z1, e2, hm⟩ := bd_some hm
  refine ki hw Fr_hi (rV hx hb hml hts hown hK hw (c_X6_isLedger l h0 e2) h0 (by decide) rfl (mkV 1 hts k_ml_RX6_95 k_im_yX6_isLedger k_se_yX6_isLedger k_in_RX6 k_co_yX6_isLedger hd_X6_isLedger ⟨Nat.le_of_ble_eq_true rfl, Nat.le_of_ble_eq_true rfl⟩) rfl hl.1 rfl (Nat.le_of_ble_eq_true rfl) dX6_fragmentCount_3 ⟨Nat.le_of_ble_eq_true rfl, Nat.le_of_ble_eq_true rfl⟩) (fun H locs hw => ?_)
  refine lv_iconst (v := 1) hx hb dX6_fragmentCount_6 (by decide) ?_
  refine ki hw Fr_hi (rV hx hb hml hts hown hK hw (c_X6_isFine l h0 z1 1) h0 (by decide) rfl (mkV 2 hts k_ml_RX6_69 k_im_yX6_isFine k_se_yX6_isFine k_in_RX6 k_co_yX6_isFine hd_X6_isFine ⟨Nat.le_of_ble_eq_true rfl, Nat.le_of_ble_eq_true rfl⟩) rfl hl.1 rfl (Nat.le_of_ble_eq_true rfl) dX6_fragmentCount_7 ⟨Nat.le_of_ble_eq_true rfl, Nat.le_of_ble_eq_true rfl⟩) (fun H locs hw => ?_)
  refine lv_if_eq (tgt := 23) hx hb dX6_fragmentCount_10 (by decide) (fun hq3 => ?_) (fun hq3 => ?_)
  · have hm := (if_pos hq3).symm.trans hm
    refine lv_iconst (v := 0) hx hb dX6_fragmentCount_23 (by decide) ?_
    cases hm
    exact eI hx hb hr hlocks hK hw dX6_fragmentCount_24
  · have hm := (if_neg hq3).symm.trans hm
    refine lv_aload_n hx hb dX6_fragmentCount_13 rfl (lv_at hl 0 rfl) ?_
    refine lv_iload_n hx hb dX6_fragmentCount_14 rfl (lv_at hl 1 rfl) ?_
    refine lv_bipush (v := 6) hx hb dX6_fragmentCount_15 (by decide) ?_
    obtain ⟨z4, e5, hm⟩ := bd_some hm
    refine ki hw Fr_hi (rV hx hb hml hts hown hK hw (c_X6_of l h0 e5) h0 (by decide) rfl (mkV 2 hts k_ml_RX6_31 k_im_yX6_of k_se_yX6_of k_in_RX6 k_co_yX6_of hd_X6_of ⟨Nat.le_of_ble_eq_true rfl, Nat.le_of_ble_eq_true rfl⟩) rfl hl.1 rfl (Nat.le_of_ble_eq_true rfl) dX6_fragmentCount_17 ⟨Nat.le_of_ble_eq_true rfl, Nat.le_of_ble_eq_true rfl⟩) (fun H locs hw => ?_)
    refine lv_goto (tgt := 24) hx hb dX6_fragmentCount_20 (by decide) ?_
    cases hm
    exact eI hx hb hr hlocks hK hw dX6_fragmentCount_24
set_option maxHeartbeats 4000000 in
set_option maxRecDepth 100000 in
theorem c_X6_isFragment (l : Launch) {D : va_G} {cy : Nat → ClassId} {A : Nat → Nat} {G : Nat → Bool} {M : Mem} {sz : Nat} {a0 : Nat} {x1 : Int32} {x2 : Int32} (h0 : TT G 5 a0)  {z : Int32} (hm : m_X6_isFragment a0 x1 x2 M = some z) : Met l yX6_isFragment (wm yX6_isFragment cX6_isFragment 3 (some .boolean)) ({ frames := 2, cells := 0, slots := 0, locals := 43 } : Room) (va_Pc [.ref (A a0), .int x1, .int x2] (Pr D cy A G M sz)) (va_Qi (fun (r' : Int32) (u : Mem) => r' = z ∧ u = M) (Po D cy A G (Fr A G sz)) (Fr A G sz))  0 0 (Fr A G sz) := by
  refine ofB (Qc := fun sz => va_Qi (fun (r' : Int32) (u : Mem) => r' = z ∧ u = M) (Po D cy A G (Fr A G sz)) (Fr A G sz)) (by decide +kernel) (Nat.le_of_ble_eq_true rfl) ?_
  intro p e s m below meth c hx hb hr hts hown hlocks hml hmn hK hw ls hl
  have hl : lv_has ls 3 [(0, .ref (A a0)), (1, .int x1), (2, .int x2)] := hl
  unfold m_X6_isFragment at hm
  revert hw
  suffices K : ∀ (H : Heap) (locs : List Loc), WD D cy (Fr A G s.heap.size) A s.heap G M H locs → W p l e (headSpec (wm yX6_isFragment cX6_isFragment 3 (some .boolean)) ({ frames := 2, cells := 0, slots := 0, locals := 43 } : Room)).room s m ([.ref (A a0), .int x1, .int x2] : List Value).toArray below meth c H locs 0 0 (MQ below (va_Qi (fun (r' : Int32) (u : Mem) => r' = z ∧ u = M) (Po D cy A G (Fr A G s.heap.size)) (Fr A G s.heap.size)) ([.ref (A a0), .int x1, .int x2] : List Value).toArray s 0 0 (Fr A G s.heap.size)) (F0 m 0 ls []) from fun hw => K _ _ hw
  intro H locs hw
  refine lv_aload_n hx hb dX6_isFragment_0 rfl (lv_at hl 0 rfl) ?_
  refine lv_iload_n hx hb dX6_isFragment_1 rfl (lv_at hl 1 rfl) ?_
  obtain ⟨z1, e2, hm⟩ := bd_some hm
  refine ki hw Fr_hi (rV hx hb hml hts hown hK hw (c_X6_isLedger l h0 e2) h0 (by decide) rfl (mkV 1 hts k_ml_RX6_95 k_im_yX6_isLedger k_se_yX6_isLedger k_in_RX6 k_co_yX6_isLedger hd_X6_isLedger ⟨Nat.le_of_ble_eq_true rfl, Nat.le_of_ble_eq_true rfl⟩) rfl hl.1 rfl (Nat.le_of_ble_eq_true rfl) dX6_isFragment_2 ⟨Nat.le_of_ble_eq_true rfl, Nat.le_of_ble_eq_true rfl⟩) (fun H locs hw => ?_)
  refine lv_if_eq (tgt := 29) hx hb dX6_isFragment_5 (by decide) (fun hq3 => ?_) (fun hq3 => ?_)
  · have hm := (if_pos hq3).symm.trans hm
    refine lv_iconst (v := 0) hx hb dX6_isFragment_29 (by decide) ?_
    cases hm
    exact eZ (show zb 0 by decide) hx hb hr hlocks hK hw dX6_isFragment_30
  · have hm := (if_neg hq3).symm.trans hm
    refine lv_iload_n hx hb dX6_isFragment_8 rfl (lv_at hl 2 rfl) ?_
    refine lv_iconst (v := 0) hx hb dX6_isFragment_9 (by decide) ?_
    refine lv_aload_n hx hb dX6_isFragment_10 rfl (lv_at hl 0 rfl) ?_
    refine lv_iload_n hx hb dX6_isFragment_11 rfl (lv_at hl 1 rfl) ?_
    refine lv_bipush (v := 6) hx hb dX6_isFragment_12 (by decide) ?_
    obtain ⟨z4, e5, hm⟩ := bd_some hm
    refine ki hw Fr_hi (rV hx hb hml hts hown hK hw (c_X6_of l h0 e5) h0 (by decide) rfl (mkV 2 hts k_ml_RX6_31 k_im_yX6_of k_se_yX6_of k_in_RX6 k_co_yX6_of hd_X6_of ⟨Nat.le_of_ble_eq_true rfl, Nat.le_of_ble_eq_true rfl⟩) rfl hl.1 rfl (Nat.le_of_ble_eq_true rfl) dX6_isFragment_14 ⟨Nat.le_of_ble_eq_true rfl, Nat.le_of_ble_eq_true rfl⟩) (fun H locs hw => ?_)
    refine lv_iconst (v := 1) hx hb dX6_isFragment_17 (by decide) ?_
    refine lv_isub hx hb dX6_isFragment_18 ?_
    refine ki hw Fr_hi (rS hx hb hml hts hown hK hw (c_X6_in l x2 0 (z4 - 1)) (mkS 3 hts k_ml_RX6_23 k_st_yX6_in k_in_RX6 k_co_yX6_in hd_X6_in ⟨Nat.le_of_ble_eq_true rfl, Nat.le_of_ble_eq_true rfl⟩) rfl hl.1 rfl (Nat.le_of_ble_eq_true rfl) dX6_isFragment_19 ⟨Nat.le_of_ble_eq_true rfl, Nat.le_of_ble_eq_true rfl⟩) (fun H locs hw => ?_)
    refine lv_if_eq (tgt := 29) hx hb dX6_isFragment_22 (by decide) (fun hq6 => ?_) (fun hq6 => ?_)
    · have hm := (if_pos hq6).symm.trans hm
      refine lv_iconst (v := 0) hx hb dX6_isFragment_29 (by decide) ?_
      cases hm
      exact eZ (show zb 0 by decide) hx hb hr hlocks hK hw dX6_isFragment_30
    · have hm := (if_neg hq6).symm.trans hm
      refine lv_iconst (v := 1) hx hb dX6_isFragment_25 (by decide) ?_
      refine lv_goto (tgt := 30) hx hb dX6_isFragment_26 (by decide) ?_
      cases hm
      exact eZ (show zb 1 by decide) hx hb hr hlocks hK hw dX6_isFragment_30
set_option maxHeartbeats 4000000 in
set_option maxRecDepth 100000 in
theorem c_X6_firstEntry (l : Launch) {D : va_G} {cy : Nat → ClassId} {A : Nat → Nat} {G : Nat → Bool} {M : Mem} {sz : Nat} {a0 : Nat} {x1 : Int32} {x2 : Int32} (h0 : TT G 5 a0)  {z : (Int32 × Mem)} (hm : m_X6_firstEntry a0 x1 x2 M = some z) : Met l yX6_firstEntry (wm yX6_firstEntry cX6_firstEntry 3 (some .int)) ({ frames := 3, cells := 0, slots := 0, locals := 65 } : Room) (va_Pc [.ref (A a0), .int x1, .int x2] (Pr D cy A G M sz)) (va_Qi (fun (r' : Int32) (u : Mem) => r' = z.1 ∧ u = z.2) (Po D cy A G (Fr A G sz)) (Fr A G sz))  0 0 (Fr A G sz) := by
  refine ofB (Qc := fun sz => va_Qi (fun (r' : Int32) (u : Mem) => r' = z.1 ∧ u = z.2) (Po D cy A G (Fr A G sz)) (Fr A G sz)) (by decide +kernel) (Nat.le_of_ble_eq_true rfl) ?_
  intro p e s m below meth c hx hb hr hts hown hlocks hml hmn hK hw ls hl
  have hl : lv_has ls 3 [(0, .ref (A a0)), (1, .int x1), (2, .int x2)] := hl
  unfold m_X6_firstEntry at hm
  revert hw
  suffices K : ∀ (H : Heap) (locs : List Loc), WD D cy (Fr A G s.heap.size) A s.heap G M H locs → W p l e (headSpec (wm yX6_firstEntry cX6_firstEntry 3 (some .int)) ({ frames := 3, cells := 0, slots := 0, locals := 65 } : Room)).room s m ([.ref (A a0), .int x1, .int x2] : List Value).toArray below meth c H locs 0 0 (MQ below (va_Qi (fun (r' : Int32) (u : Mem) => r' = z.1 ∧ u = z.2) (Po D cy A G (Fr A G s.heap.size)) (Fr A G s.heap.size)) ([.ref (A a0), .int x1, .int x2] : List Value).toArray s 0 0 (Fr A G s.heap.size)) (F0 m 0 ls []) from fun hw => K _ _ hw
  intro H locs hw
  refine lv_aload_n hx hb dX6_firstEntry_0 rfl (lv_at hl 0 rfl) ?_
  refine lv_aload_n hx hb dX6_firstEntry_1 rfl (lv_at hl 0 rfl) ?_
  refine lv_iload_n hx hb dX6_firstEntry_2 rfl (lv_at hl 1 rfl) ?_
  refine lv_iload_n hx hb dX6_firstEntry_3 rfl (lv_at hl 2 rfl) ?_
  obtain ⟨z1, e2, hm⟩ := bd_some hm
  refine ki hw Fr_hi (rV hx hb hml hts hown hK hw (c_X6_isFragment l h0 e2) h0 (by decide) rfl (mkV 2 hts k_ml_RX6_148 k_im_yX6_isFragment k_se_yX6_isFragment k_in_RX6 k_co_yX6_isFragment hd_X6_isFragment ⟨Nat.le_of_ble_eq_true rfl, Nat.le_of_ble_eq_true rfl⟩) rfl hl.1 rfl (Nat.le_of_ble_eq_true rfl) dX6_firstEntry_4 ⟨Nat.le_of_ble_eq_true rfl, Nat.le_of_ble_eq_true rfl⟩) (fun H locs hw => ?_)
  refine lv_iconst (v := 1) hx hb dX6_firstEntry_7 (by decide) ?_
  refine ki hw Fr_hi (rV hx hb hml hts hown hK hw (c_X6_isFine l h0 z1 1) h0 (by decide) rfl (mkV 2 hts k_ml_RX6_69 k_im_yX6_isFine k_se_yX6_isFine k_in_RX6 k_co_yX6_isFine hd_X6_isFine ⟨Nat.le_of_ble_eq_true rfl, Nat.le_of_ble_eq_true rfl⟩) rfl hl.1 rfl (Nat.le_of_ble_eq_true rfl) dX6_firstEntry_8 ⟨Nat.le_of_ble_eq_true rfl, Nat.le_of_ble_eq_true rfl⟩) (fun H locs hw => ?_)
  refine lv_if_eq (tgt := 26) hx hb dX6_firstEntry_11 (by decide) (fun hq3 => ?_) (fun hq3 => ?_)
  · have hm := (if_pos hq3).symm.trans hm
    refine lv_iconst (v := 0) hx hb dX6_firstEntry_26 (by decide) ?_
    cases hm
    exact eI hx hb hr hlocks hK hw dX6_firstEntry_27
  · have hm := (if_neg hq3).symm.trans hm
    refine lv_aload_n hx hb dX6_firstEntry_14 rfl (lv_at hl 0 rfl) ?_
    refine lv_iload_n hx hb dX6_firstEntry_15 rfl (lv_at hl 1 rfl) ?_
    refine lv_bipush (v := 87) hx hb dX6_firstEntry_16 (by decide) ?_
    refine lv_iload_n hx hb dX6_firstEntry_18 rfl (lv_at hl 2 rfl) ?_
    refine lv_iadd hx hb dX6_firstEntry_19 ?_
    obtain ⟨z4, e5, hm⟩ := bd_some hm
    refine ki hw Fr_hi (rV hx hb hml hts hown hK hw (c_X6_of l h0 e5) h0 (by decide) rfl (mkV 2 hts k_ml_RX6_31 k_im_yX6_of k_se_yX6_of k_in_RX6 k_co_yX6_of hd_X6_of ⟨Nat.le_of_ble_eq_true rfl, Nat.le_of_ble_eq_true rfl⟩) rfl hl.1 rfl (Nat.le_of_ble_eq_true rfl) dX6_firstEntry_20 ⟨Nat.le_of_ble_eq_true rfl, Nat.le_of_ble_eq_true rfl⟩) (fun H locs hw => ?_)
    refine lv_goto (tgt := 27) hx hb dX6_firstEntry_23 (by decide) ?_
    cases hm
    exact eI hx hb hr hlocks hK hw dX6_firstEntry_27
set_option maxHeartbeats 4000000 in
set_option maxRecDepth 100000 in
theorem c_X6_member (l : Launch) {D : va_G} {cy : Nat → ClassId} {A : Nat → Nat} {G : Nat → Bool} {M : Mem} {sz : Nat} {a0 : Nat} {x1 : Int32} {x2 : Int32} {x3 : Int32} (h0 : TT G 5 a0)  {z : (Int32 × Mem)} (hm : m_X6_member a0 x1 x2 x3 M = some z) : Met l yX6_member (wm yX6_member cX6_member 5 (some .int)) ({ frames := 3, cells := 0, slots := 0, locals := 65 } : Room) (va_Pc [.ref (A a0), .int x1, .int x2, .int x3] (Pr D cy A G M sz)) (va_Qi (fun (r' : Int32) (u : Mem) => r' = z.1 ∧ u = z.2) (Po D cy A G (Fr A G sz)) (Fr A G sz))  0 0 (Fr A G sz) := by
  refine ofB (Qc := fun sz => va_Qi (fun (r' : Int32) (u : Mem) => r' = z.1 ∧ u = z.2) (Po D cy A G (Fr A G sz)) (Fr A G sz)) (by decide +kernel) (Nat.le_of_ble_eq_true rfl) ?_
  intro p e s m below meth c hx hb hr hts hown hlocks hml hmn hK hw ls hl
  have hl : lv_has ls 5 [(0, .ref (A a0)), (1, .int x1), (2, .int x2), (3, .int x3)] := hl
  have J30 : ∀  (u0 : Int32) (M : Mem), m_X6_member_b30 a0 x1 x2 x3 u0 M = some z → ∀ (H : Heap) (locs : List Loc), WD D cy (Fr A G s.heap.size) A s.heap G M H locs → ∀ ls : Array Slot, lv_has ls 5 [(0, .ref (A a0)), (1, .int x1), (2, .int x2), (3, .int x3)] → W p l e (headSpec (wm yX6_member cX6_member 5 (some .int)) ({ frames := 3, cells := 0, slots := 0, locals := 65 } : Room)).room s m ([.ref (A a0), .int x1, .int x2, .int x3] : List Value).toArray below meth c H locs 0 0 (MQ below (va_Qi (fun (r' : Int32) (u : Mem) => r' = z.1 ∧ u = z.2) (Po D cy A G (Fr A G s.heap.size)) (Fr A G s.heap.size)) ([.ref (A a0), .int x1, .int x2, .int x3] : List Value).toArray s 0 0 (Fr A G s.heap.size)) (F0 m 30 ls [.int u0]) := by
    intro u0 M hm H locs hw ls hl
    unfold m_X6_member_b30 at hm
    refine lv_istore (lv' := [(4, .int u0), (0, .ref (A a0)), (1, .int x1), (2, .int x2), (3, .int x3)]) hx hb dX6_member_30 hl (by decide) rfl (fun ls hl => ?_)
    refine lv_aload_n hx hb dX6_member_32 rfl (lv_at hl 1 rfl) ?_
    refine lv_iload hx hb dX6_member_33 (lv_at hl 0 rfl) ?_
    refine lv_iconst (v := 1) hx hb dX6_member_35 (by decide) ?_
    refine ki hw Fr_hi (rV hx hb hml hts hown hK hw (c_X6_isFine l h0 u0 1) h0 (by decide) rfl (mkV 2 hts k_ml_RX6_69 k_im_yX6_isFine k_se_yX6_isFine k_in_RX6 k_co_yX6_isFine hd_X6_isFine ⟨Nat.le_of_ble_eq_true rfl, Nat.le_of_ble_eq_true rfl⟩) rfl hl.1 rfl (Nat.le_of_ble_eq_true rfl) dX6_member_36 ⟨Nat.le_of_ble_eq_true rfl, Nat.le_of_ble_eq_true rfl⟩) (fun H locs hw => ?_)
    refine lv_if_eq (tgt := 52) hx hb dX6_member_39 (by decide) (fun hq4 => ?_) (fun hq4 => ?_)
    · have hm := (if_pos hq4).symm.trans hm
      refine lv_iconst (v := 0) hx hb dX6_member_52 (by decide) ?_
      cases hm
      exact eI hx hb hr hlocks hK hw dX6_member_53
    · have hm := (if_neg hq4).symm.trans hm
      refine lv_aload_n hx hb dX6_member_42 rfl (lv_at hl 1 rfl) ?_
      refine lv_iload_n hx hb dX6_member_43 rfl (lv_at hl 2 rfl) ?_
      refine lv_iload_n hx hb dX6_member_44 rfl (lv_at hl 3 rfl) ?_
      refine lv_iload_n hx hb dX6_member_45 rfl (lv_at hl 4 rfl) ?_
      obtain ⟨z5, e6, hm⟩ := bd_some hm
      refine ki hw Fr_hi (rV hx hb hml hts hown hK hw (c_X6_memberOf l h0 e6) h0 (by decide) rfl (mkV 3 hts k_ml_RX6_35 k_im_yX6_memberOf k_se_yX6_memberOf k_in_RX6 k_co_yX6_memberOf hd_X6_memberOf ⟨Nat.le_of_ble_eq_true rfl, Nat.le_of_ble_eq_true rfl⟩) rfl hl.1 rfl (Nat.le_of_ble_eq_true rfl) dX6_member_46 ⟨Nat.le_of_ble_eq_true rfl, Nat.le_of_ble_eq_true rfl⟩) (fun H locs hw => ?_)
      refine lv_goto (tgt := 53) hx hb dX6_member_49 (by decide) ?_
      cases hm
      exact eI hx hb hr hlocks hK hw dX6_member_53
  unfold m_X6_member at hm
  revert hw
  suffices K : ∀ (H : Heap) (locs : List Loc), WD D cy (Fr A G s.heap.size) A s.heap G M H locs → W p l e (headSpec (wm yX6_member cX6_member 5 (some .int)) ({ frames := 3, cells := 0, slots := 0, locals := 65 } : Room)).room s m ([.ref (A a0), .int x1, .int x2, .int x3] : List Value).toArray below meth c H locs 0 0 (MQ below (va_Qi (fun (r' : Int32) (u : Mem) => r' = z.1 ∧ u = z.2) (Po D cy A G (Fr A G s.heap.size)) (Fr A G s.heap.size)) ([.ref (A a0), .int x1, .int x2, .int x3] : List Value).toArray s 0 0 (Fr A G s.heap.size)) (F0 m 0 ls []) from fun hw => K _ _ hw
  intro H locs hw
  refine lv_aload_n hx hb dX6_member_0 rfl (lv_at hl 0 rfl) ?_
  refine lv_iload_n hx hb dX6_member_1 rfl (lv_at hl 1 rfl) ?_
  refine lv_iload_n hx hb dX6_member_2 rfl (lv_at hl 2 rfl) ?_
  obtain ⟨z1, e2, hm⟩ := bd_some hm
  refine ki hw Fr_hi (rV hx hb hml hts hown hK hw (c_X6_isFragment l h0 e2) h0 (by decide) rfl (mkV 2 hts k_ml_RX6_148 k_im_yX6_isFragment k_se_yX6_isFragment k_in_RX6 k_co_yX6_isFragment hd_X6_isFragment ⟨Nat.le_of_ble_eq_true rfl, Nat.le_of_ble_eq_true rfl⟩) rfl hl.1 rfl (Nat.le_of_ble_eq_true rfl) dX6_member_3 ⟨Nat.le_of_ble_eq_true rfl, Nat.le_of_ble_eq_true rfl⟩) (fun H locs hw => ?_)
  refine lv_if_eq (tgt := 29) hx hb dX6_member_6 (by decide) (fun hq3 => ?_) (fun hq3 => ?_)
  · have hm := (if_pos hq3).symm.trans hm
    refine lv_iconst (v := 0) hx hb dX6_member_29 (by decide) ?_
    exact J30 0 M hm H locs hw ls hl
  · have hm := (if_neg hq3).symm.trans hm
    refine lv_iload_n hx hb dX6_member_9 rfl (lv_at hl 3 rfl) ?_
    refine lv_iconst (v := 0) hx hb dX6_member_10 (by decide) ?_
    refine lv_aload_n hx hb dX6_member_11 rfl (lv_at hl 0 rfl) ?_
    refine lv_iload_n hx hb dX6_member_12 rfl (lv_at hl 1 rfl) ?_
    refine lv_iconst (v := 0) hx hb dX6_member_13 (by decide) ?_
    obtain ⟨z7, e8, hm⟩ := bd_some hm
    refine ki hw Fr_hi (rV hx hb hml hts hown hK hw (c_X6_of l h0 e8) h0 (by decide) rfl (mkV 2 hts k_ml_RX6_31 k_im_yX6_of k_se_yX6_of k_in_RX6 k_co_yX6_of hd_X6_of ⟨Nat.le_of_ble_eq_true rfl, Nat.le_of_ble_eq_true rfl⟩) rfl hl.1 rfl (Nat.le_of_ble_eq_true rfl) dX6_member_14 ⟨Nat.le_of_ble_eq_true rfl, Nat.le_of_ble_eq_true rfl⟩) (fun H locs hw => ?_)
    refine lv_iconst (v := 1) hx hb dX6_member_17 (by decide) ?_
    refine lv_isub hx hb dX6_member_18 ?_
    refine ki hw Fr_hi (rS hx hb hml hts hown hK hw (c_X6_in l x3 0 (z7 - 1)) (mkS 3 hts k_ml_RX6_23 k_st_yX6_in k_in_RX6 k_co_yX6_in hd_X6_in ⟨Nat.le_of_ble_eq_true rfl, Nat.le_of_ble_eq_true rfl⟩) rfl hl.1 rfl (Nat.le_of_ble_eq_true rfl) dX6_member_19 ⟨Nat.le_of_ble_eq_true rfl, Nat.le_of_ble_eq_true rfl⟩) (fun H locs hw => ?_)
    refine lv_if_eq (tgt := 29) hx hb dX6_member_22 (by decide) (fun hq9 => ?_) (fun hq9 => ?_)
    · have hm := (if_pos hq9).symm.trans hm
      refine lv_iconst (v := 0) hx hb dX6_member_29 (by decide) ?_
      exact J30 0 M hm H locs hw ls hl
    · have hm := (if_neg hq9).symm.trans hm
      refine lv_iconst (v := 1) hx hb dX6_member_25 (by decide) ?_
      refine lv_goto (tgt := 30) hx hb dX6_member_26 (by decide) ?_
      exact J30 1 M hm H locs hw ls hl
set_option maxHeartbeats 4000000 in
set_option maxRecDepth 100000 in
theorem c_X6_under (l : Launch) {D : va_G} {cy : Nat → ClassId} {A : Nat → Nat} {G : Nat → Bool} {M : Mem} {sz : Nat} {a0 : Nat} {x1 : Int32} (h0 : TT G 5 a0)  {z : Int32} (hm : m_X6_under a0 x1 M = some z) : Met l yX6_under (wm yX6_under cX6_under 8 (some .int)) ({ frames := 3, cells := 0, slots := 0, locals := 69 } : Room) (va_Pc [.ref (A a0), .int x1] (Pr D cy A G M sz)) (va_Qi (fun (r' : Int32) (u : Mem) => r' = z ∧ u = M) (Po D cy A G (Fr A G sz)) (Fr A G sz))  0 0 (Fr A G sz) := by
  refine ofB (Qc := fun sz => va_Qi (fun (r' : Int32) (u : Mem) => r' = z ∧ u = M) (Po D cy A G (Fr A G sz)) (Fr A G sz)) (by decide +kernel) (Nat.le_of_ble_eq_true rfl) ?_
  intro p e s m below meth c hx hb hr hts hown hlocks hml hmn hK hw ls hl
  have hl : lv_has ls 8 [(0, .ref (A a0)), (1, .int x1)] := hl
  have J23 : ∀ (k11 : Int32 → Int32 → Int32 → Option Int32) (jk11 : ∀ (v2 : Int32) (v3 : Int32) (v4 : Int32), k11 v2 v3 v4 = some z → ∀ (H : Heap) (locs : List Loc), WD D cy (Fr A G s.heap.size) A s.heap G M H locs → ∀ ls : Array Slot, lv_has ls 8 [(0, .ref (A a0)), (1, .int x1), (2, .int v2), (3, .int v3), (4, .int v4)] → W p l e (headSpec (wm yX6_under cX6_under 8 (some .int)) ({ frames := 3, cells := 0, slots := 0, locals := 69 } : Room)).room s m ([.ref (A a0), .int x1] : List Value).toArray below meth c H locs 0 0 (MQ below (va_Qi (fun (r' : Int32) (u : Mem) => r' = z ∧ u = M) (Po D cy A G (Fr A G s.heap.size)) (Fr A G s.heap.size)) ([.ref (A a0), .int x1] : List Value).toArray s 0 0 (Fr A G s.heap.size)) (F0 m 11 ls [])) (n : Nat) (v2 : Int32) (v3 : Int32) (v4 : Int32) (v5 : Int32) (v6 : Int32), m_X6_under_L23 a0 x1 M k11 n v2 v3 v4 v5 v6 = some z → ∀ (H : Heap) (locs : List Loc), WD D cy (Fr A G s.heap.size) A s.heap G M H locs → ∀ ls : Array Slot, lv_has ls 8 [(0, .ref (A a0)), (1, .int x1), (2, .int v2), (3, .int v3), (4, .int v4), (5, .int v5), (6, .int v6)] → W p l e (headSpec (wm yX6_under cX6_under 8 (some .int)) ({ frames := 3, cells := 0, slots := 0, locals := 69 } : Room)).room s m ([.ref (A a0), .int x1] : List Value).toArray below meth c H locs 0 0 (MQ below (va_Qi (fun (r' : Int32) (u : Mem) => r' = z ∧ u = M) (Po D cy A G (Fr A G s.heap.size)) (Fr A G s.heap.size)) ([.ref (A a0), .int x1] : List Value).toArray s 0 0 (Fr A G s.heap.size)) (F0 m 23 ls []) := by
    intro k11 jk11 n
    induction n with
    | zero =>
      intro v2 v3 v4 v5 v6 hm
      cases (show (none : Option Int32) = some z from hm)
    | succ n ih =>
      intro v2 v3 v4 v5 v6 hm H locs hw ls hl
      have hm := (m_X6_under_L23_s a0 x1 M k11 n v2 v3 v4 v5 v6).symm.trans hm
      refine lv_iload hx hb dX6_under_23 (lv_at hl 6 rfl) ?_
      refine lv_aload_n hx hb dX6_under_25 rfl (lv_at hl 0 rfl) ?_
      refine lv_iload_n hx hb dX6_under_26 rfl (lv_at hl 1 rfl) ?_
      refine lv_iconst (v := 1) hx hb dX6_under_27 (by decide) ?_
      obtain ⟨z4, e5, hm⟩ := bd_some hm
      refine ki hw Fr_hi (rV hx hb hml hts hown hK hw (c_X6_of l h0 e5) h0 (by decide) rfl (mkV 2 hts k_ml_RX6_31 k_im_yX6_of k_se_yX6_of k_in_RX6 k_co_yX6_of hd_X6_of ⟨Nat.le_of_ble_eq_true rfl, Nat.le_of_ble_eq_true rfl⟩) rfl hl.1 rfl (Nat.le_of_ble_eq_true rfl) dX6_under_28 ⟨Nat.le_of_ble_eq_true rfl, Nat.le_of_ble_eq_true rfl⟩) (fun H locs hw => ?_)
      refine lv_icmp_ge (tgt := 89) hx hb dX6_under_31 (by decide) (fun hq6 => ?_) (fun hq6 => ?_)
      · have hm := (if_pos hq6).symm.trans hm
        refine lv_iload_n hx hb dX6_under_89 rfl (lv_at hl 2 rfl) ?_
        refine lv_iload hx hb dX6_under_90 (lv_at hl 5 rfl) ?_
        refine lv_aload_n hx hb dX6_under_92 rfl (lv_at hl 0 rfl) ?_
        refine lv_iload_n hx hb dX6_under_93 rfl (lv_at hl 1 rfl) ?_
        refine lv_iconst (v := 1) hx hb dX6_under_94 (by decide) ?_
        obtain ⟨z7, e8, hm⟩ := bd_some hm
        refine ki hw Fr_hi (rV hx hb hml hts hown hK hw (c_X6_of l h0 e8) h0 (by decide) rfl (mkV 2 hts k_ml_RX6_31 k_im_yX6_of k_se_yX6_of k_in_RX6 k_co_yX6_of hd_X6_of ⟨Nat.le_of_ble_eq_true rfl, Nat.le_of_ble_eq_true rfl⟩) rfl hl.1 rfl (Nat.le_of_ble_eq_true rfl) dX6_under_95 ⟨Nat.le_of_ble_eq_true rfl, Nat.le_of_ble_eq_true rfl⟩) (fun H locs hw => ?_)
        refine lv_icmp_ge (tgt := 105) hx hb dX6_under_98 (by decide) (fun hq9 => ?_) (fun hq9 => ?_)
        · have hm := (if_pos hq9).symm.trans hm
          refine lv_iconst (v := 0) hx hb dX6_under_105 (by decide) ?_
          refine lv_iadd hx hb dX6_under_106 ?_
          refine lv_istore_n (lv' := [(2, .int (v2 + 0)), (0, .ref (A a0)), (1, .int x1), (3, .int v3), (4, .int v4), (5, .int v5), (6, .int v6)]) hx hb dX6_under_107 rfl hl (by decide) rfl (fun ls hl => ?_)
          refine lv_iinc (v := (v4 + 1)) (lv' := [(4, .int (v4 + 1)), (2, .int (v2 + 0)), (0, .ref (A a0)), (1, .int x1), (3, .int v3), (5, .int v5), (6, .int v6)]) hx hb dX6_under_108 hl (k := 4) rfl rfl (by decide) rfl (fun ls hl => ?_)
          refine lv_goto (tgt := 11) hx hb dX6_under_111 (by decide) ?_
          exact jk11 (v2 + 0) v3 (v4 + 1) hm H locs hw ls (lv_sub hl [2, 3, 1, 4, 0] rfl)
        · have hm := (if_neg hq9).symm.trans hm
          refine lv_iconst (v := 1) hx hb dX6_under_101 (by decide) ?_
          refine lv_goto (tgt := 106) hx hb dX6_under_102 (by decide) ?_
          refine lv_iadd hx hb dX6_under_106 ?_
          refine lv_istore_n (lv' := [(2, .int (v2 + 1)), (0, .ref (A a0)), (1, .int x1), (3, .int v3), (4, .int v4), (5, .int v5), (6, .int v6)]) hx hb dX6_under_107 rfl hl (by decide) rfl (fun ls hl => ?_)
          refine lv_iinc (v := (v4 + 1)) (lv' := [(4, .int (v4 + 1)), (2, .int (v2 + 1)), (0, .ref (A a0)), (1, .int x1), (3, .int v3), (5, .int v5), (6, .int v6)]) hx hb dX6_under_108 hl (k := 4) rfl rfl (by decide) rfl (fun ls hl => ?_)
          refine lv_goto (tgt := 11) hx hb dX6_under_111 (by decide) ?_
          exact jk11 (v2 + 1) v3 (v4 + 1) hm H locs hw ls (lv_sub hl [2, 3, 1, 4, 0] rfl)
      · have hm := (if_neg hq6).symm.trans hm
        refine lv_aload_n hx hb dX6_under_34 rfl (lv_at hl 0 rfl) ?_
        refine lv_iload_n hx hb dX6_under_35 rfl (lv_at hl 1 rfl) ?_
        refine lv_aload_n hx hb dX6_under_36 rfl (lv_at hl 0 rfl) ?_
        refine lv_iload_n hx hb dX6_under_37 rfl (lv_at hl 1 rfl) ?_
        refine lv_iload hx hb dX6_under_38 (lv_at hl 4 rfl) ?_
        obtain ⟨z10, e11, hm⟩ := bd_some hm
        refine ki hw Fr_hi (rV hx hb hml hts hown hK hw (c_X6_fragmentOf l h0 e11) h0 (by decide) rfl (mkV 2 hts k_ml_RX6_38 k_im_yX6_fragmentOf k_se_yX6_fragmentOf k_in_RX6 k_co_yX6_fragmentOf hd_X6_fragmentOf ⟨Nat.le_of_ble_eq_true rfl, Nat.le_of_ble_eq_true rfl⟩) rfl hl.1 rfl (Nat.le_of_ble_eq_true rfl) dX6_under_40 ⟨Nat.le_of_ble_eq_true rfl, Nat.le_of_ble_eq_true rfl⟩) (fun H locs hw => ?_)
        refine lv_iload hx hb dX6_under_43 (lv_at hl 4 rfl) ?_
        refine lv_iload hx hb dX6_under_45 (lv_at hl 6 rfl) ?_
        obtain ⟨z12, e13, hm⟩ := bd_some hm
        refine ki hw Fr_hi (rV hx hb hml hts hown hK hw (c_X6_writer l h0 e13) h0 (by decide) rfl (mkV 4 hts k_ml_RX6_41 k_im_yX6_writer k_se_yX6_writer k_in_RX6 k_co_yX6_writer hd_X6_writer ⟨Nat.le_of_ble_eq_true rfl, Nat.le_of_ble_eq_true rfl⟩) rfl hl.1 rfl (Nat.le_of_ble_eq_true rfl) dX6_under_47 ⟨Nat.le_of_ble_eq_true rfl, Nat.le_of_ble_eq_true rfl⟩) (fun H locs hw => ?_)
        refine lv_istore (lv' := [(7, .int z12), (0, .ref (A a0)), (1, .int x1), (2, .int v2), (3, .int v3), (4, .int v4), (5, .int v5), (6, .int v6)]) hx hb dX6_under_50 hl (by decide) rfl (fun ls hl => ?_)
        refine lv_iload hx hb dX6_under_52 (lv_at hl 6 rfl) ?_
        refine lv_aload_n hx hb dX6_under_54 rfl (lv_at hl 1 rfl) ?_
        refine lv_iload hx hb dX6_under_55 (lv_at hl 0 rfl) ?_
        obtain ⟨z14, e15, hm⟩ := bd_some hm
        refine ki hw Fr_hi (rV hx hb hml hts hown hK hw (c_X6_isUp l h0 e15) h0 (by decide) rfl (mkV 1 hts k_ml_RX6_45 k_im_yX6_isUp k_se_yX6_isUp k_in_RX6 k_co_yX6_isUp hd_X6_isUp ⟨Nat.le_of_ble_eq_true rfl, Nat.le_of_ble_eq_true rfl⟩) rfl hl.1 rfl (Nat.le_of_ble_eq_true rfl) dX6_under_57 ⟨Nat.le_of_ble_eq_true rfl, Nat.le_of_ble_eq_true rfl⟩) (fun H locs hw => ?_)
        refine lv_if_eq (tgt := 79) hx hb dX6_under_60 (by decide) (fun hq16 => ?_) (fun hq16 => ?_)
        · have hm := (if_pos hq16).symm.trans hm
          refine lv_iconst (v := 0) hx hb dX6_under_79 (by decide) ?_
          refine lv_iadd hx hb dX6_under_80 ?_
          refine lv_istore (lv' := [(5, .int (v5 + 0)), (7, .int z12), (0, .ref (A a0)), (1, .int x1), (2, .int v2), (3, .int v3), (4, .int v4), (6, .int v6)]) hx hb dX6_under_81 hl (by decide) rfl (fun ls hl => ?_)
          refine lv_iinc (v := (v6 + 1)) (lv' := [(6, .int (v6 + 1)), (5, .int (v5 + 0)), (7, .int z12), (0, .ref (A a0)), (1, .int x1), (2, .int v2), (3, .int v3), (4, .int v4)]) hx hb dX6_under_83 hl (k := 7) rfl rfl (by decide) rfl (fun ls hl => ?_)
          refine lv_goto (tgt := 23) hx hb dX6_under_86 (by decide) ?_
          exact ih v2 v3 v4 (v5 + 0) (v6 + 1) hm H locs hw ls (lv_sub hl [3, 4, 5, 6, 7, 1, 0] rfl)
        · have hm := (if_neg hq16).symm.trans hm
          refine lv_aload_n hx hb dX6_under_63 rfl (lv_at hl 1 rfl) ?_
          refine lv_iload hx hb dX6_under_64 (lv_at hl 0 rfl) ?_
          refine lv_iload_n hx hb dX6_under_66 rfl (lv_at hl 2 rfl) ?_
          refine lv_iload hx hb dX6_under_67 (lv_at hl 5 rfl) ?_
          obtain ⟨z17, e18, hm⟩ := bd_some hm
          refine ki hw Fr_hi (rV hx hb hml hts hown hK hw (c_X6_stores l h0 e18) h0 (by decide) rfl (mkV 3 hts k_ml_RX6_112 k_im_yX6_stores k_se_yX6_stores k_in_RX6 k_co_yX6_stores hd_X6_stores ⟨Nat.le_of_ble_eq_true rfl, Nat.le_of_ble_eq_true rfl⟩) rfl hl.1 rfl (Nat.le_of_ble_eq_true rfl) dX6_under_69 ⟨Nat.le_of_ble_eq_true rfl, Nat.le_of_ble_eq_true rfl⟩) (fun H locs hw => ?_)
          refine lv_if_eq (tgt := 79) hx hb dX6_under_72 (by decide) (fun hq19 => ?_) (fun hq19 => ?_)
          · have hm := (if_pos hq19).symm.trans hm
            refine lv_iconst (v := 0) hx hb dX6_under_79 (by decide) ?_
            refine lv_iadd hx hb dX6_under_80 ?_
            refine lv_istore (lv' := [(5, .int (v5 + 0)), (7, .int z12), (0, .ref (A a0)), (1, .int x1), (2, .int v2), (3, .int v3), (4, .int v4), (6, .int v6)]) hx hb dX6_under_81 hl (by decide) rfl (fun ls hl => ?_)
            refine lv_iinc (v := (v6 + 1)) (lv' := [(6, .int (v6 + 1)), (5, .int (v5 + 0)), (7, .int z12), (0, .ref (A a0)), (1, .int x1), (2, .int v2), (3, .int v3), (4, .int v4)]) hx hb dX6_under_83 hl (k := 7) rfl rfl (by decide) rfl (fun ls hl => ?_)
            refine lv_goto (tgt := 23) hx hb dX6_under_86 (by decide) ?_
            exact ih v2 v3 v4 (v5 + 0) (v6 + 1) hm H locs hw ls (lv_sub hl [3, 4, 5, 6, 7, 1, 0] rfl)
          · have hm := (if_neg hq19).symm.trans hm
            refine lv_iconst (v := 1) hx hb dX6_under_75 (by decide) ?_
            refine lv_goto (tgt := 80) hx hb dX6_under_76 (by decide) ?_
            refine lv_iadd hx hb dX6_under_80 ?_
            refine lv_istore (lv' := [(5, .int (v5 + 1)), (7, .int z12), (0, .ref (A a0)), (1, .int x1), (2, .int v2), (3, .int v3), (4, .int v4), (6, .int v6)]) hx hb dX6_under_81 hl (by decide) rfl (fun ls hl => ?_)
            refine lv_iinc (v := (v6 + 1)) (lv' := [(6, .int (v6 + 1)), (5, .int (v5 + 1)), (7, .int z12), (0, .ref (A a0)), (1, .int x1), (2, .int v2), (3, .int v3), (4, .int v4)]) hx hb dX6_under_83 hl (k := 7) rfl rfl (by decide) rfl (fun ls hl => ?_)
            refine lv_goto (tgt := 23) hx hb dX6_under_86 (by decide) ?_
            exact ih v2 v3 v4 (v5 + 1) (v6 + 1) hm H locs hw ls (lv_sub hl [3, 4, 5, 6, 7, 1, 0] rfl)
  have J11 : ∀  (n : Nat) (v2 : Int32) (v3 : Int32) (v4 : Int32), m_X6_under_L11 a0 x1 M n v2 v3 v4 = some z → ∀ (H : Heap) (locs : List Loc), WD D cy (Fr A G s.heap.size) A s.heap G M H locs → ∀ ls : Array Slot, lv_has ls 8 [(0, .ref (A a0)), (1, .int x1), (2, .int v2), (3, .int v3), (4, .int v4)] → W p l e (headSpec (wm yX6_under cX6_under 8 (some .int)) ({ frames := 3, cells := 0, slots := 0, locals := 69 } : Room)).room s m ([.ref (A a0), .int x1] : List Value).toArray below meth c H locs 0 0 (MQ below (va_Qi (fun (r' : Int32) (u : Mem) => r' = z ∧ u = M) (Po D cy A G (Fr A G s.heap.size)) (Fr A G s.heap.size)) ([.ref (A a0), .int x1] : List Value).toArray s 0 0 (Fr A G s.heap.size)) (F0 m 11 ls []) := by
    intro n
    induction n with
    | zero =>
      intro v2 v3 v4 hm
      cases (show (none : Option Int32) = some z from hm)
    | succ n ih =>
      intro v2 v3 v4 hm H locs hw ls hl
      have hm := (m_X6_under_L11_s a0 x1 M n v2 v3 v4).symm.trans hm
      refine lv_iload hx hb dX6_under_11 (lv_at hl 4 rfl) ?_
      refine lv_iload_n hx hb dX6_under_13 rfl (lv_at hl 3 rfl) ?_
      refine lv_icmp_gt (tgt := 114) hx hb dX6_under_14 (by decide) (fun hq3 => ?_) (fun hq3 => ?_)
      · have hm := (if_pos hq3).symm.trans hm
        refine lv_iload_n hx hb dX6_under_114 rfl (lv_at hl 2 rfl) ?_
        cases hm
        exact eI hx hb hr hlocks hK hw dX6_under_115
      · have hm := (if_neg hq3).symm.trans hm
        refine lv_iconst (v := 0) hx hb dX6_under_17 (by decide) ?_
        refine lv_istore (lv' := [(5, .int 0), (0, .ref (A a0)), (1, .int x1), (2, .int v2), (3, .int v3), (4, .int v4)]) hx hb dX6_under_18 hl (by decide) rfl (fun ls hl => ?_)
        refine lv_iconst (v := 0) hx hb dX6_under_20 (by decide) ?_
        refine lv_istore (lv' := [(6, .int 0), (5, .int 0), (0, .ref (A a0)), (1, .int x1), (2, .int v2), (3, .int v3), (4, .int v4)]) hx hb dX6_under_21 hl (by decide) rfl (fun ls hl => ?_)
        exact J23 (fun w0 w1 w2 => m_X6_under_L11 a0 x1 M n w0 w1 w2) (fun w0 w1 w2 hh H locs hw ls hl => ih w0 w1 w2 hh H locs hw ls hl) fuel v2 v3 v4 0 0 hm H locs hw ls (lv_sub hl [2, 3, 4, 5, 6, 1, 0] rfl)
  unfold m_X6_under at hm
  revert hw
  suffices K : ∀ (H : Heap) (locs : List Loc), WD D cy (Fr A G s.heap.size) A s.heap G M H locs → W p l e (headSpec (wm yX6_under cX6_under 8 (some .int)) ({ frames := 3, cells := 0, slots := 0, locals := 69 } : Room)).room s m ([.ref (A a0), .int x1] : List Value).toArray below meth c H locs 0 0 (MQ below (va_Qi (fun (r' : Int32) (u : Mem) => r' = z ∧ u = M) (Po D cy A G (Fr A G s.heap.size)) (Fr A G s.heap.size)) ([.ref (A a0), .int x1] : List Value).toArray s 0 0 (Fr A G s.heap.size)) (F0 m 0 ls []) from fun hw => K _ _ hw
  intro H locs hw
  refine lv_iconst (v := 0) hx hb dX6_under_0 (by decide) ?_
  refine lv_istore_n (lv' := [(2, .int 0), (0, .ref (A a0)), (1, .int x1)]) hx hb dX6_under_1 rfl hl (by decide) rfl (fun ls hl => ?_)
  refine lv_aload_n hx hb dX6_under_2 rfl (lv_at hl 1 rfl) ?_
  refine lv_iload_n hx hb dX6_under_3 rfl (lv_at hl 2 rfl) ?_
  obtain ⟨z1, e2, hm⟩ := bd_some hm
  refine ki hw Fr_hi (rV hx hb hml hts hown hK hw (c_X6_readable l h0 e2) h0 (by decide) rfl (mkV 1 hts k_ml_RX6_139 k_im_yX6_readable k_se_yX6_readable k_in_RX6 k_co_yX6_readable hd_X6_readable ⟨Nat.le_of_ble_eq_true rfl, Nat.le_of_ble_eq_true rfl⟩) rfl hl.1 rfl (Nat.le_of_ble_eq_true rfl) dX6_under_4 ⟨Nat.le_of_ble_eq_true rfl, Nat.le_of_ble_eq_true rfl⟩) (fun H locs hw => ?_)
  refine lv_istore_n (lv' := [(3, .int z1), (2, .int 0), (0, .ref (A a0)), (1, .int x1)]) hx hb dX6_under_7 rfl hl (by decide) rfl (fun ls hl => ?_)
  refine lv_iconst (v := 0) hx hb dX6_under_8 (by decide) ?_
  refine lv_istore (lv' := [(4, .int 0), (3, .int z1), (2, .int 0), (0, .ref (A a0)), (1, .int x1)]) hx hb dX6_under_9 hl (by decide) rfl (fun ls hl => ?_)
  exact J11 fuel 0 z1 0 hm H locs hw ls (lv_sub hl [3, 4, 2, 1, 0] rfl)
set_option maxHeartbeats 4000000 in
set_option maxRecDepth 100000 in
theorem c_X6_underReplicated (l : Launch) {D : va_G} {cy : Nat → ClassId} {A : Nat → Nat} {G : Nat → Bool} {M : Mem} {sz : Nat} {a0 : Nat} {x1 : Int32} (h0 : TT G 5 a0)  {z : (Int32 × Mem)} (hm : m_X6_underReplicated a0 x1 M = some z) : Met l yX6_underReplicated (wm yX6_underReplicated cX6_underReplicated 2 (some .int)) ({ frames := 4, cells := 0, slots := 0, locals := 96 } : Room) (va_Pc [.ref (A a0), .int x1] (Pr D cy A G M sz)) (va_Qi (fun (r' : Int32) (u : Mem) => r' = z.1 ∧ u = z.2) (Po D cy A G (Fr A G sz)) (Fr A G sz))  0 0 (Fr A G sz) := by
  refine ofB (Qc := fun sz => va_Qi (fun (r' : Int32) (u : Mem) => r' = z.1 ∧ u = z.2) (Po D cy A G (Fr A G sz)) (Fr A G sz)) (by decide +kernel) (Nat.le_of_ble_eq_true rfl) ?_
  intro p e s m below meth c hx hb hr hts hown hlocks hml hmn hK hw ls hl
  have hl : lv_has ls 2 [(0, .ref (A a0)), (1, .int x1)] := hl
  unfold m_X6_underReplicated at hm
  revert hw
  suffices K : ∀ (H : Heap) (locs : List Loc), WD D cy (Fr A G s.heap.size) A s.heap G M H locs → W p l e (headSpec (wm yX6_underReplicated cX6_underReplicated 2 (some .int)) ({ frames := 4, cells := 0, slots := 0, locals := 96 } : Room)).room s m ([.ref (A a0), .int x1] : List Value).toArray below meth c H locs 0 0 (MQ below (va_Qi (fun (r' : Int32) (u : Mem) => r' = z.1 ∧ u = z.2) (Po D cy A G (Fr A G s.heap.size)) (Fr A G s.heap.size)) ([.ref (A a0), .int x1] : List Value).toArray s 0 0 (Fr A G s.heap.size)) (F0 m 0 ls []) from fun hw => K _ _ hw
  intro H locs hw
  refine lv_aload_n hx hb dX6_underReplicated_0 rfl (lv_at hl 0 rfl) ?_
  refine lv_aload_n hx hb dX6_underReplicated_1 rfl (lv_at hl 0 rfl) ?_
  refine lv_iload_n hx hb dX6_underReplicated_2 rfl (lv_at hl 1 rfl) ?_
  obtain ⟨z1, e2, hm⟩ := bd_some hm
  refine ki hw Fr_hi (rV hx hb hml hts hown hK hw (c_X6_isLedger l h0 e2) h0 (by decide) rfl (mkV 1 hts k_ml_RX6_95 k_im_yX6_isLedger k_se_yX6_isLedger k_in_RX6 k_co_yX6_isLedger hd_X6_isLedger ⟨Nat.le_of_ble_eq_true rfl, Nat.le_of_ble_eq_true rfl⟩) rfl hl.1 rfl (Nat.le_of_ble_eq_true rfl) dX6_underReplicated_3 ⟨Nat.le_of_ble_eq_true rfl, Nat.le_of_ble_eq_true rfl⟩) (fun H locs hw => ?_)
  refine lv_iconst (v := 1) hx hb dX6_underReplicated_6 (by decide) ?_
  refine ki hw Fr_hi (rV hx hb hml hts hown hK hw (c_X6_isFine l h0 z1 1) h0 (by decide) rfl (mkV 2 hts k_ml_RX6_69 k_im_yX6_isFine k_se_yX6_isFine k_in_RX6 k_co_yX6_isFine hd_X6_isFine ⟨Nat.le_of_ble_eq_true rfl, Nat.le_of_ble_eq_true rfl⟩) rfl hl.1 rfl (Nat.le_of_ble_eq_true rfl) dX6_underReplicated_7 ⟨Nat.le_of_ble_eq_true rfl, Nat.le_of_ble_eq_true rfl⟩) (fun H locs hw => ?_)
  refine lv_if_eq (tgt := 21) hx hb dX6_underReplicated_10 (by decide) (fun hq3 => ?_) (fun hq3 => ?_)
  · have hm := (if_pos hq3).symm.trans hm
    refine lv_iconst (v := 0) hx hb dX6_underReplicated_21 (by decide) ?_
    cases hm
    exact eI hx hb hr hlocks hK hw dX6_underReplicated_22
  · have hm := (if_neg hq3).symm.trans hm
    refine lv_aload_n hx hb dX6_underReplicated_13 rfl (lv_at hl 0 rfl) ?_
    refine lv_iload_n hx hb dX6_underReplicated_14 rfl (lv_at hl 1 rfl) ?_
    obtain ⟨z4, e5, hm⟩ := bd_some hm
    refine ki hw Fr_hi (rV hx hb hml hts hown hK hw (c_X6_under l h0 e5) h0 (by decide) rfl (mkV 1 hts k_ml_RX6_151 k_im_yX6_under k_se_yX6_under k_in_RX6 k_co_yX6_under hd_X6_under ⟨Nat.le_of_ble_eq_true rfl, Nat.le_of_ble_eq_true rfl⟩) rfl hl.1 rfl (Nat.le_of_ble_eq_true rfl) dX6_underReplicated_15 ⟨Nat.le_of_ble_eq_true rfl, Nat.le_of_ble_eq_true rfl⟩) (fun H locs hw => ?_)
    refine lv_goto (tgt := 22) hx hb dX6_underReplicated_18 (by decide) ?_
    cases hm
    exact eI hx hb hr hlocks hK hw dX6_underReplicated_22
set_option maxHeartbeats 4000000 in
set_option maxRecDepth 100000 in
theorem c_X6_undo (l : Launch) {D : va_G} {cy : Nat → ClassId} {A : Nat → Nat} {G : Nat → Bool} {M : Mem} {sz : Nat} {a0 : Nat} (h0 : TT G 5 a0)  {z : (Int32 × Mem)} (hm : m_X6_undo a0 M = some z) : Met l yX6_undo (wm yX6_undo cX6_undo 2 (some .int)) ({ frames := 0, cells := 0, slots := 0, locals := 0 } : Room) (va_Pc [.ref (A a0)] (Pr D cy A G M sz)) (va_Qi (fun (r' : Int32) (u : Mem) => r' = z.1 ∧ u = z.2) (Po D cy A G (Fr A G sz)) (Fr A G sz))  0 0 (Fr A G sz) := by
  refine ofB (Qc := fun sz => va_Qi (fun (r' : Int32) (u : Mem) => r' = z.1 ∧ u = z.2) (Po D cy A G (Fr A G sz)) (Fr A G sz)) (by decide +kernel) (Nat.le_of_ble_eq_true rfl) ?_
  intro p e s m below meth c hx hb hr hts hown hlocks hml hmn hK hw ls hl
  have hl : lv_has ls 2 [(0, .ref (A a0))] := hl
  have J37 : ∀  (n : Nat) (v1 : Int32) (M : Mem), m_X6_undo_L37 a0 n v1 M = some z → ∀ (H : Heap) (locs : List Loc), WD D cy (Fr A G s.heap.size) A s.heap G M H locs → ∀ ls : Array Slot, lv_has ls 2 [(0, .ref (A a0)), (1, .int v1)] → W p l e (headSpec (wm yX6_undo cX6_undo 2 (some .int)) ({ frames := 0, cells := 0, slots := 0, locals := 0 } : Room)).room s m ([.ref (A a0)] : List Value).toArray below meth c H locs 0 0 (MQ below (va_Qi (fun (r' : Int32) (u : Mem) => r' = z.1 ∧ u = z.2) (Po D cy A G (Fr A G s.heap.size)) (Fr A G s.heap.size)) ([.ref (A a0)] : List Value).toArray s 0 0 (Fr A G s.heap.size)) (F0 m 37 ls []) := by
    intro n
    induction n with
    | zero =>
      intro v1 M hm
      cases (show (none : Option (Int32 × Mem)) = some z from hm)
    | succ n ih =>
      intro v1 M hm H locs hw ls hl
      have hm := (m_X6_undo_L37_s a0 n v1 M).symm.trans hm
      refine lv_iload_n hx hb dX6_undo_37 rfl (lv_at hl 1 rfl) ?_
      refine lv_sipush (v := 3463) hx hb dX6_undo_38 (by decide) ?_
      refine lv_icmp_ge (tgt := 71) hx hb dX6_undo_41 (by decide) (fun hq3 => ?_) (fun hq3 => ?_)
      · have hm := (if_pos hq3).symm.trans hm
        refine lv_aload_n hx hb dX6_undo_71 rfl (lv_at hl 0 rfl) ?_
        refine g5 hx hb hts hown hK hw h0 2 (by decide) (.int (gF M a0 2)) rfl k_fl_RX6_16 (fun _ h => h) dX6_undo_72 ?_
        cases hm
        exact eI hx hb hr hlocks hK hw dX6_undo_75
      · have hm := (if_neg hq3).symm.trans hm
        refine lv_aload_n hx hb dX6_undo_44 rfl (lv_at hl 0 rfl) ?_
        refine g5 hx hb hts hown hK hw h0 0 (by decide) (.ref (A 4)) rfl k_fl_RX6_7 (fun _ h => h) dX6_undo_45 ?_
        have hp4 := mo_s h0
        refine lv_iload_n hx hb dX6_undo_48 rfl (lv_at hl 1 rfl) ?_
        refine lv_aload_n hx hb dX6_undo_49 rfl (lv_at hl 0 rfl) ?_
        refine g5 hx hb hts hown hK hw h0 1 (by decide) (.ref (A 5)) rfl k_fl_RX6_13 (fun _ h => h) dX6_undo_50 ?_
        have hp5 := mo_p h0
        refine lv_sipush (v := 3463) hx hb dX6_undo_53 (by decide) ?_
        refine lv_aload_n hx hb dX6_undo_56 rfl (lv_at hl 0 rfl) ?_
        refine g5 hx hb hts hown hK hw h0 2 (by decide) (.int (gF M a0 2)) rfl k_fl_RX6_16 (fun _ h => h) dX6_undo_57 ?_
        refine lv_imul hx hb dX6_undo_60 ?_
        refine lv_iload_n hx hb dX6_undo_61 rfl (lv_at hl 1 rfl) ?_
        refine lv_iadd hx hb dX6_undo_62 ?_
        obtain ⟨hi6, hm⟩ := ck_some hm
        refine gI hx hb hK hw hp5 hi6 dX6_undo_63 ?_
        obtain ⟨hi7, hm⟩ := ck_some hm
        refine pI hx hb hK hw hp4 hi7 dX6_undo_64 (fun H locs hw => ?_)
        refine lv_iinc (v := (v1 + 1)) (lv' := [(1, .int (v1 + 1)), (0, .ref (A a0))]) hx hb dX6_undo_65 hl (k := 1) rfl rfl (by decide) rfl (fun ls hl => ?_)
        refine lv_goto (tgt := 37) hx hb dX6_undo_68 (by decide) ?_
        exact ih (v1 + 1) (aI 4 v1 (gR M 5 (cl ((3463 * (gF M a0 2)) + v1))) M) hm H locs hw ls (lv_sub hl [1, 0] rfl)
  have J13 : ∀  (u0 : Nat) (u1 : Int32) (M : Mem) (hu0 : TT G 5 u0), m_X6_undo_b13 a0 u0 u1 M = some z → ∀ (H : Heap) (locs : List Loc), WD D cy (Fr A G s.heap.size) A s.heap G M H locs → ∀ ls : Array Slot, lv_has ls 2 [(0, .ref (A a0))] → W p l e (headSpec (wm yX6_undo cX6_undo 2 (some .int)) ({ frames := 0, cells := 0, slots := 0, locals := 0 } : Room)).room s m ([.ref (A a0)] : List Value).toArray below meth c H locs 0 0 (MQ below (va_Qi (fun (r' : Int32) (u : Mem) => r' = z.1 ∧ u = z.2) (Po D cy A G (Fr A G s.heap.size)) (Fr A G s.heap.size)) ([.ref (A a0)] : List Value).toArray s 0 0 (Fr A G s.heap.size)) (F0 m 13 ls [.int u1, .ref (A u0)]) := by
    intro u0 u1 M hu0 hm H locs hw ls hl
    unfold m_X6_undo_b13 at hm
    refine p5 hx hb hts hown hK hw hu0 3 (by decide) k_fl_RX6_20 (fun _ h => h) dX6_undo_13 (fun H locs hw => ?_)
    refine lv_aload_n hx hb dX6_undo_16 rfl (lv_at hl 0 rfl) ?_
    refine g5 hx hb hts hown hK hw h0 3 (by decide) (.int (gF (sF u0 3 u1 M) a0 3)) rfl k_fl_RX6_20 (fun _ h => h) dX6_undo_17 ?_
    refine lv_if_le (tgt := 25) hx hb dX6_undo_20 (by decide) (fun hq2 => ?_) (fun hq2 => ?_)
    · have hm := (if_pos hq2).symm.trans hm
      refine lv_aload_n hx hb dX6_undo_25 rfl (lv_at hl 0 rfl) ?_
      refine lv_dup hx hb dX6_undo_26 rfl ?_
      refine g5 hx hb hts hown hK hw h0 2 (by decide) (.int (gF (sF u0 3 u1 M) a0 2)) rfl k_fl_RX6_16 (fun _ h => h) dX6_undo_27 ?_
      refine lv_iconst (v := 1) hx hb dX6_undo_30 (by decide) ?_
      refine lv_isub hx hb dX6_undo_31 ?_
      refine p5 hx hb hts hown hK hw h0 2 (by decide) k_fl_RX6_16 (fun _ h => h) dX6_undo_32 (fun H locs hw => ?_)
      refine lv_iconst (v := 0) hx hb dX6_undo_35 (by decide) ?_
      refine lv_istore_n (lv' := [(1, .int 0), (0, .ref (A a0))]) hx hb dX6_undo_36 rfl hl (by decide) rfl (fun ls hl => ?_)
      exact J37 fuel 0 (sF a0 2 ((gF (sF u0 3 u1 M) a0 2) - 1) (sF u0 3 u1 M)) hm H locs hw ls (lv_sub hl [1, 0] rfl)
    · have hm := (if_neg hq2).symm.trans hm
      refine lv_iconst (v := 0) hx hb dX6_undo_23 (by decide) ?_
      cases hm
      exact eI hx hb hr hlocks hK hw dX6_undo_24
  unfold m_X6_undo at hm
  revert hw
  suffices K : ∀ (H : Heap) (locs : List Loc), WD D cy (Fr A G s.heap.size) A s.heap G M H locs → W p l e (headSpec (wm yX6_undo cX6_undo 2 (some .int)) ({ frames := 0, cells := 0, slots := 0, locals := 0 } : Room)).room s m ([.ref (A a0)] : List Value).toArray below meth c H locs 0 0 (MQ below (va_Qi (fun (r' : Int32) (u : Mem) => r' = z.1 ∧ u = z.2) (Po D cy A G (Fr A G s.heap.size)) (Fr A G s.heap.size)) ([.ref (A a0)] : List Value).toArray s 0 0 (Fr A G s.heap.size)) (F0 m 0 ls []) from fun hw => K _ _ hw
  intro H locs hw
  refine lv_aload_n hx hb dX6_undo_0 rfl (lv_at hl 0 rfl) ?_
  refine lv_aload_n hx hb dX6_undo_1 rfl (lv_at hl 0 rfl) ?_
  refine g5 hx hb hts hown hK hw h0 2 (by decide) (.int (gF M a0 2)) rfl k_fl_RX6_16 (fun _ h => h) dX6_undo_2 ?_
  refine lv_if_ne (tgt := 12) hx hb dX6_undo_5 (by decide) (fun hq1 => ?_) (fun hq1 => ?_)
  · have hm := (if_neg hq1).symm.trans hm
    refine lv_iconst (v := 0) hx hb dX6_undo_12 (by decide) ?_
    exact J13 a0 0 M h0 hm H locs hw ls hl
  · have hm := (if_pos hq1).symm.trans hm
    refine lv_iconst (v := 1) hx hb dX6_undo_8 (by decide) ?_
    refine lv_goto (tgt := 13) hx hb dX6_undo_9 (by decide) ?_
    exact J13 a0 1 M h0 hm H locs hw ls hl
set_option maxHeartbeats 4000000 in
set_option maxRecDepth 100000 in
theorem c_X6_add (l : Launch) {D : va_G} {cy : Nat → ClassId} {A : Nat → Nat} {G : Nat → Bool} {M : Mem} {sz : Nat} {a0 : Nat} (h0 : TT G 5 a0) (x1 : Int32)  : Met l yX6_add (wm yX6_add cX6_add 2 none) ({ frames := 0, cells := 0, slots := 0, locals := 0 } : Room) (va_Pc [.ref (A a0), .int x1] (Pr D cy A G M sz)) (va_Qv (fun (u : Mem) => u = (m_X6_add a0 x1 M)) (Po D cy A G (Fr A G sz)) (Fr A G sz))  0 0 (Fr A G sz) := by
  refine ofB (Qc := fun sz => va_Qv (fun (u : Mem) => u = (m_X6_add a0 x1 M)) (Po D cy A G (Fr A G sz)) (Fr A G sz)) (by decide +kernel) (Nat.le_of_ble_eq_true rfl) ?_
  intro p e s m below meth c hx hb hr hts hown hlocks hml hmn hK hw ls hl
  have hl : lv_has ls 2 [(0, .ref (A a0)), (1, .int x1)] := hl
  generalize hm : m_X6_add a0 x1 M = z
  unfold m_X6_add at hm
  revert hw
  suffices K : ∀ (H : Heap) (locs : List Loc), WD D cy (Fr A G s.heap.size) A s.heap G M H locs → W p l e (headSpec (wm yX6_add cX6_add 2 none) ({ frames := 0, cells := 0, slots := 0, locals := 0 } : Room)).room s m ([.ref (A a0), .int x1] : List Value).toArray below meth c H locs 0 0 (MQ below (va_Qv (fun (u : Mem) => u = z) (Po D cy A G (Fr A G s.heap.size)) (Fr A G s.heap.size)) ([.ref (A a0), .int x1] : List Value).toArray s 0 0 (Fr A G s.heap.size)) (F0 m 0 ls []) from fun hw => K _ _ hw
  intro H locs hw
  refine lv_aload_n hx hb dX6_add_0 rfl (lv_at hl 0 rfl) ?_
  refine lv_ldc2 hx hb hown (hts _ k_ct_RX6_154) dX6_add_1 ?_
  refine lv_aload_n hx hb dX6_add_4 rfl (lv_at hl 0 rfl) ?_
  refine g5 hx hb hts hown hK hw h0 4 (by decide) (.long (gh M)) rfl k_fl_RX6_156 (fun _ h => h) dX6_add_5 ?_
  refine lv_lmul hx hb dX6_add_8 ?_
  refine lv_iload_n hx hb dX6_add_9 rfl (lv_at hl 1 rfl) ?_
  refine lv_i2l (v := x1.toInt64) hx hb dX6_add_10 rfl ?_
  refine lv_ladd hx hb dX6_add_11 ?_
  refine p5h hx hb hts hown hK hw h0 k_fl_RX6_156 (fun _ h => h) dX6_add_12 (fun H locs hw => ?_)
  cases hm
  exact eV hx hb hr hlocks hK hw dX6_add_15
set_option maxHeartbeats 4000000 in
set_option maxRecDepth 100000 in
theorem c_X6_addLedger (l : Launch) {D : va_G} {cy : Nat → ClassId} {A : Nat → Nat} {G : Nat → Bool} {M : Mem} {sz : Nat} {a0 : Nat} {x1 : Int32} (h0 : TT G 5 a0)  {z : Mem} (hm : m_X6_addLedger a0 x1 M = some z) : Met l yX6_addLedger (wm yX6_addLedger cX6_addLedger 4 none) ({ frames := 4, cells := 0, slots := 0, locals := 96 } : Room) (va_Pc [.ref (A a0), .int x1] (Pr D cy A G M sz)) (va_Qv (fun (u : Mem) => u = z) (Po D cy A G (Fr A G sz)) (Fr A G sz))  0 0 (Fr A G sz) := by
  refine ofB (Qc := fun sz => va_Qv (fun (u : Mem) => u = z) (Po D cy A G (Fr A G sz)) (Fr A G sz)) (by decide +kernel) (Nat.le_of_ble_eq_true rfl) ?_
  intro p e s m below meth c hx hb hr hts hown hlocks hml hmn hK hw ls hl
  have hl : lv_has ls 4 [(0, .ref (A a0)), (1, .int x1)] := hl
  have J199 : ∀  (n : Nat) (v2 : Int32) (M : Mem), m_X6_addLedger_L199 a0 x1 n v2 M = some z → ∀ (H : Heap) (locs : List Loc), WD D cy (Fr A G s.heap.size) A s.heap G M H locs → ∀ ls : Array Slot, lv_has ls 4 [(0, .ref (A a0)), (1, .int x1), (2, .int v2)] → W p l e (headSpec (wm yX6_addLedger cX6_addLedger 4 none) ({ frames := 4, cells := 0, slots := 0, locals := 96 } : Room)).room s m ([.ref (A a0), .int x1] : List Value).toArray below meth c H locs 0 0 (MQ below (va_Qv (fun (u : Mem) => u = z) (Po D cy A G (Fr A G s.heap.size)) (Fr A G s.heap.size)) ([.ref (A a0), .int x1] : List Value).toArray s 0 0 (Fr A G s.heap.size)) (F0 m 199 ls []) := by
    intro n
    induction n with
    | zero =>
      intro v2 M hm
      cases (show (none : Option Mem) = some z from hm)
    | succ n ih =>
      intro v2 M hm H locs hw ls hl
      have hm := (m_X6_addLedger_L199_s a0 x1 n v2 M).symm.trans hm
      refine lv_iload_n hx hb dX6_addLedger_199 rfl (lv_at hl 2 rfl) ?_
      refine lv_aload_n hx hb dX6_addLedger_200 rfl (lv_at hl 0 rfl) ?_
      refine g5 hx hb hts hown hK hw h0 0 (by decide) (.ref (A 4)) rfl k_fl_RX6_7 (fun _ h => h) dX6_addLedger_201 ?_
      have hp23 := mo_s h0
      refine lv_iconst (v := 0) hx hb dX6_addLedger_204 (by decide) ?_
      obtain ⟨hi24, hm⟩ := ck_some hm
      refine gI hx hb hK hw hp23 hi24 dX6_addLedger_205 ?_
      refine lv_icmp_ge (tgt := 233) hx hb dX6_addLedger_206 (by decide) (fun hq25 => ?_) (fun hq25 => ?_)
      · have hm := (if_pos hq25).symm.trans hm
        cases hm
        exact eV hx hb hr hlocks hK hw dX6_addLedger_233
      · have hm := (if_neg hq25).symm.trans hm
        refine lv_aload_n hx hb dX6_addLedger_209 rfl (lv_at hl 0 rfl) ?_
        refine lv_aload_n hx hb dX6_addLedger_210 rfl (lv_at hl 0 rfl) ?_
        refine g5 hx hb hts hown hK hw h0 0 (by decide) (.ref (A 4)) rfl k_fl_RX6_7 (fun _ h => h) dX6_addLedger_211 ?_
        have hp26 := mo_s h0
        refine lv_sipush (v := 2099) hx hb dX6_addLedger_214 (by decide) ?_
        refine lv_iconst (v := 4) hx hb dX6_addLedger_217 (by decide) ?_
        refine lv_iload_n hx hb dX6_addLedger_218 rfl (lv_at hl 2 rfl) ?_
        refine lv_imul hx hb dX6_addLedger_219 ?_
        refine lv_iadd hx hb dX6_addLedger_220 ?_
        refine lv_iload_n hx hb dX6_addLedger_221 rfl (lv_at hl 1 rfl) ?_
        refine lv_iadd hx hb dX6_addLedger_222 ?_
        obtain ⟨hi27, hm⟩ := ck_some hm
        refine gI hx hb hK hw hp26 hi27 dX6_addLedger_223 ?_
        refine kv hw Fr_hi (rV hx hb hml hts hown hK hw (c_X6_add l h0 (gR M 4 (cl ((2099 + (4 * v2)) + x1)))) h0 (by decide) rfl (mkV 1 hts k_ml_RX6_160 k_im_yX6_add k_se_yX6_add k_in_RX6 k_co_yX6_add hd_X6_add ⟨Nat.le_of_ble_eq_true rfl, Nat.le_of_ble_eq_true rfl⟩) rfl hl.1 rfl (Nat.le_of_ble_eq_true rfl) dX6_addLedger_224 ⟨Nat.le_of_ble_eq_true rfl, Nat.le_of_ble_eq_true rfl⟩) (fun H locs hw => ?_)
        refine lv_iinc (v := (v2 + 1)) (lv' := [(2, .int (v2 + 1)), (0, .ref (A a0)), (1, .int x1)]) hx hb dX6_addLedger_227 hl (k := 2) rfl rfl (by decide) rfl (fun ls hl => ?_)
        refine lv_goto (tgt := 199) hx hb dX6_addLedger_230 (by decide) ?_
        exact ih (v2 + 1) (m_X6_add a0 (gR M 4 (cl ((2099 + (4 * v2)) + x1))) M) hm H locs hw ls (lv_sub hl [1, 2, 0] rfl)
  have J142 : ∀  (n : Nat) (v2 : Int32) (M : Mem), m_X6_addLedger_L142 a0 x1 n v2 M = some z → ∀ (H : Heap) (locs : List Loc), WD D cy (Fr A G s.heap.size) A s.heap G M H locs → ∀ ls : Array Slot, lv_has ls 4 [(0, .ref (A a0)), (1, .int x1), (2, .int v2)] → W p l e (headSpec (wm yX6_addLedger cX6_addLedger 4 none) ({ frames := 4, cells := 0, slots := 0, locals := 96 } : Room)).room s m ([.ref (A a0), .int x1] : List Value).toArray below meth c H locs 0 0 (MQ below (va_Qv (fun (u : Mem) => u = z) (Po D cy A G (Fr A G s.heap.size)) (Fr A G s.heap.size)) ([.ref (A a0), .int x1] : List Value).toArray s 0 0 (Fr A G s.heap.size)) (F0 m 142 ls []) := by
    intro n
    induction n with
    | zero =>
      intro v2 M hm
      cases (show (none : Option Mem) = some z from hm)
    | succ n ih =>
      intro v2 M hm H locs hw ls hl
      have hm := (m_X6_addLedger_L142_s a0 x1 n v2 M).symm.trans hm
      refine lv_iload_n hx hb dX6_addLedger_142 rfl (lv_at hl 2 rfl) ?_
      refine lv_aload_n hx hb dX6_addLedger_143 rfl (lv_at hl 0 rfl) ?_
      refine lv_iload_n hx hb dX6_addLedger_144 rfl (lv_at hl 1 rfl) ?_
      refine lv_iconst (v := 4) hx hb dX6_addLedger_145 (by decide) ?_
      obtain ⟨z20, e21, hm⟩ := bd_some hm
      refine ki hw Fr_hi (rV hx hb hml hts hown hK hw (c_X6_of l h0 e21) h0 (by decide) rfl (mkV 2 hts k_ml_RX6_31 k_im_yX6_of k_se_yX6_of k_in_RX6 k_co_yX6_of hd_X6_of ⟨Nat.le_of_ble_eq_true rfl, Nat.le_of_ble_eq_true rfl⟩) rfl hl.1 rfl (Nat.le_of_ble_eq_true rfl) dX6_addLedger_146 ⟨Nat.le_of_ble_eq_true rfl, Nat.le_of_ble_eq_true rfl⟩) (fun H locs hw => ?_)
      refine lv_icmp_ge (tgt := 197) hx hb dX6_addLedger_149 (by decide) (fun hq22 => ?_) (fun hq22 => ?_)
      · have hm := (if_pos hq22).symm.trans hm
        refine lv_iconst (v := 0) hx hb dX6_addLedger_197 (by decide) ?_
        refine lv_istore_n (lv' := [(2, .int 0), (0, .ref (A a0)), (1, .int x1)]) hx hb dX6_addLedger_198 rfl hl (by decide) rfl (fun ls hl => ?_)
        exact J199 fuel 0 M hm H locs hw ls (lv_sub hl [1, 2, 0] rfl)
      · have hm := (if_neg hq22).symm.trans hm
        refine lv_aload_n hx hb dX6_addLedger_152 rfl (lv_at hl 0 rfl) ?_
        refine lv_aload_n hx hb dX6_addLedger_153 rfl (lv_at hl 0 rfl) ?_
        refine lv_iload_n hx hb dX6_addLedger_154 rfl (lv_at hl 1 rfl) ?_
        refine lv_bipush (v := 7) hx hb dX6_addLedger_155 (by decide) ?_
        refine lv_iload_n hx hb dX6_addLedger_157 rfl (lv_at hl 2 rfl) ?_
        refine lv_iadd hx hb dX6_addLedger_158 ?_
        obtain ⟨z28, e29, hm⟩ := bd_some hm
        refine ki hw Fr_hi (rV hx hb hml hts hown hK hw (c_X6_of l h0 e29) h0 (by decide) rfl (mkV 2 hts k_ml_RX6_31 k_im_yX6_of k_se_yX6_of k_in_RX6 k_co_yX6_of hd_X6_of ⟨Nat.le_of_ble_eq_true rfl, Nat.le_of_ble_eq_true rfl⟩) rfl hl.1 rfl (Nat.le_of_ble_eq_true rfl) dX6_addLedger_159 ⟨Nat.le_of_ble_eq_true rfl, Nat.le_of_ble_eq_true rfl⟩) (fun H locs hw => ?_)
        refine kv hw Fr_hi (rV hx hb hml hts hown hK hw (c_X6_add l h0 z28) h0 (by decide) rfl (mkV 1 hts k_ml_RX6_160 k_im_yX6_add k_se_yX6_add k_in_RX6 k_co_yX6_add hd_X6_add ⟨Nat.le_of_ble_eq_true rfl, Nat.le_of_ble_eq_true rfl⟩) rfl hl.1 rfl (Nat.le_of_ble_eq_true rfl) dX6_addLedger_162 ⟨Nat.le_of_ble_eq_true rfl, Nat.le_of_ble_eq_true rfl⟩) (fun H locs hw => ?_)
        refine lv_aload_n hx hb dX6_addLedger_165 rfl (lv_at hl 0 rfl) ?_
        refine lv_aload_n hx hb dX6_addLedger_166 rfl (lv_at hl 0 rfl) ?_
        refine lv_iload_n hx hb dX6_addLedger_167 rfl (lv_at hl 1 rfl) ?_
        refine lv_bipush (v := 47) hx hb dX6_addLedger_168 (by decide) ?_
        refine lv_iload_n hx hb dX6_addLedger_170 rfl (lv_at hl 2 rfl) ?_
        refine lv_iadd hx hb dX6_addLedger_171 ?_
        obtain ⟨z30, e31, hm⟩ := bd_some hm
        refine ki hw Fr_hi (rV hx hb hml hts hown hK hw (c_X6_of l h0 e31) h0 (by decide) rfl (mkV 2 hts k_ml_RX6_31 k_im_yX6_of k_se_yX6_of k_in_RX6 k_co_yX6_of hd_X6_of ⟨Nat.le_of_ble_eq_true rfl, Nat.le_of_ble_eq_true rfl⟩) rfl hl.1 rfl (Nat.le_of_ble_eq_true rfl) dX6_addLedger_172 ⟨Nat.le_of_ble_eq_true rfl, Nat.le_of_ble_eq_true rfl⟩) (fun H locs hw => ?_)
        obtain ⟨z32, e33, hm⟩ := bd_some hm
        refine ki hw Fr_hi (rS hx hb hml hts hown hK hw (c_X6_count l e33) (mkS 1 hts k_ml_RX6_57 k_st_yX6_count k_in_RX6 k_co_yX6_count hd_X6_count ⟨Nat.le_of_ble_eq_true rfl, Nat.le_of_ble_eq_true rfl⟩) rfl hl.1 rfl (Nat.le_of_ble_eq_true rfl) dX6_addLedger_175 ⟨Nat.le_of_ble_eq_true rfl, Nat.le_of_ble_eq_true rfl⟩) (fun H locs hw => ?_)
        refine kv hw Fr_hi (rV hx hb hml hts hown hK hw (c_X6_add l h0 z32) h0 (by decide) rfl (mkV 1 hts k_ml_RX6_160 k_im_yX6_add k_se_yX6_add k_in_RX6 k_co_yX6_add hd_X6_add ⟨Nat.le_of_ble_eq_true rfl, Nat.le_of_ble_eq_true rfl⟩) rfl hl.1 rfl (Nat.le_of_ble_eq_true rfl) dX6_addLedger_178 ⟨Nat.le_of_ble_eq_true rfl, Nat.le_of_ble_eq_true rfl⟩) (fun H locs hw => ?_)
        refine lv_aload_n hx hb dX6_addLedger_181 rfl (lv_at hl 0 rfl) ?_
        refine lv_aload_n hx hb dX6_addLedger_182 rfl (lv_at hl 0 rfl) ?_
        refine lv_iload_n hx hb dX6_addLedger_183 rfl (lv_at hl 1 rfl) ?_
        refine lv_iload_n hx hb dX6_addLedger_184 rfl (lv_at hl 2 rfl) ?_
        obtain ⟨z34, e35, hm⟩ := bd_some hm
        refine ki hw Fr_hi (rV hx hb hml hts hown hK hw (c_X6_holding l h0 e35) h0 (by decide) rfl (mkV 2 hts k_ml_RX6_145 k_im_yX6_holding k_se_yX6_holding k_in_RX6 k_co_yX6_holding hd_X6_holding ⟨Nat.le_of_ble_eq_true rfl, Nat.le_of_ble_eq_true rfl⟩) rfl hl.1 rfl (Nat.le_of_ble_eq_true rfl) dX6_addLedger_185 ⟨Nat.le_of_ble_eq_true rfl, Nat.le_of_ble_eq_true rfl⟩) (fun H locs hw => ?_)
        refine kv hw Fr_hi (rV hx hb hml hts hown hK hw (c_X6_add l h0 z34) h0 (by decide) rfl (mkV 1 hts k_ml_RX6_160 k_im_yX6_add k_se_yX6_add k_in_RX6 k_co_yX6_add hd_X6_add ⟨Nat.le_of_ble_eq_true rfl, Nat.le_of_ble_eq_true rfl⟩) rfl hl.1 rfl (Nat.le_of_ble_eq_true rfl) dX6_addLedger_188 ⟨Nat.le_of_ble_eq_true rfl, Nat.le_of_ble_eq_true rfl⟩) (fun H locs hw => ?_)
        refine lv_iinc (v := (v2 + 1)) (lv' := [(2, .int (v2 + 1)), (0, .ref (A a0)), (1, .int x1)]) hx hb dX6_addLedger_191 hl (k := 2) rfl rfl (by decide) rfl (fun ls hl => ?_)
        refine lv_goto (tgt := 142) hx hb dX6_addLedger_194 (by decide) ?_
        exact ih (v2 + 1) (m_X6_add a0 z34 (m_X6_add a0 z32 (m_X6_add a0 z28 M))) hm H locs hw ls (lv_sub hl [1, 2, 0] rfl)
  have J107 : ∀ (k81 : Int32 → Mem → Option Mem) (jk81 : ∀ (v2 : Int32) (M : Mem), k81 v2 M = some z → ∀ (H : Heap) (locs : List Loc), WD D cy (Fr A G s.heap.size) A s.heap G M H locs → ∀ ls : Array Slot, lv_has ls 4 [(0, .ref (A a0)), (1, .int x1), (2, .int v2)] → W p l e (headSpec (wm yX6_addLedger cX6_addLedger 4 none) ({ frames := 4, cells := 0, slots := 0, locals := 96 } : Room)).room s m ([.ref (A a0), .int x1] : List Value).toArray below meth c H locs 0 0 (MQ below (va_Qv (fun (u : Mem) => u = z) (Po D cy A G (Fr A G s.heap.size)) (Fr A G s.heap.size)) ([.ref (A a0), .int x1] : List Value).toArray s 0 0 (Fr A G s.heap.size)) (F0 m 81 ls [])) (n : Nat) (v2 : Int32) (v3 : Int32) (M : Mem), m_X6_addLedger_L107 a0 x1 k81 n v2 v3 M = some z → ∀ (H : Heap) (locs : List Loc), WD D cy (Fr A G s.heap.size) A s.heap G M H locs → ∀ ls : Array Slot, lv_has ls 4 [(0, .ref (A a0)), (1, .int x1), (2, .int v2), (3, .int v3)] → W p l e (headSpec (wm yX6_addLedger cX6_addLedger 4 none) ({ frames := 4, cells := 0, slots := 0, locals := 96 } : Room)).room s m ([.ref (A a0), .int x1] : List Value).toArray below meth c H locs 0 0 (MQ below (va_Qv (fun (u : Mem) => u = z) (Po D cy A G (Fr A G s.heap.size)) (Fr A G s.heap.size)) ([.ref (A a0), .int x1] : List Value).toArray s 0 0 (Fr A G s.heap.size)) (F0 m 107 ls []) := by
    intro k81 jk81 n
    induction n with
    | zero =>
      intro v2 v3 M hm
      cases (show (none : Option Mem) = some z from hm)
    | succ n ih =>
      intro v2 v3 M hm H locs hw ls hl
      have hm := (m_X6_addLedger_L107_s a0 x1 k81 n v2 v3 M).symm.trans hm
      refine lv_iload_n hx hb dX6_addLedger_107 rfl (lv_at hl 3 rfl) ?_
      refine lv_aload_n hx hb dX6_addLedger_108 rfl (lv_at hl 0 rfl) ?_
      refine lv_iload_n hx hb dX6_addLedger_109 rfl (lv_at hl 1 rfl) ?_
      refine lv_iconst (v := 0) hx hb dX6_addLedger_110 (by decide) ?_
      obtain ⟨z38, e39, hm⟩ := bd_some hm
      refine ki hw Fr_hi (rV hx hb hml hts hown hK hw (c_X6_of l h0 e39) h0 (by decide) rfl (mkV 2 hts k_ml_RX6_31 k_im_yX6_of k_se_yX6_of k_in_RX6 k_co_yX6_of hd_X6_of ⟨Nat.le_of_ble_eq_true rfl, Nat.le_of_ble_eq_true rfl⟩) rfl hl.1 rfl (Nat.le_of_ble_eq_true rfl) dX6_addLedger_111 ⟨Nat.le_of_ble_eq_true rfl, Nat.le_of_ble_eq_true rfl⟩) (fun H locs hw => ?_)
      refine lv_icmp_ge (tgt := 134) hx hb dX6_addLedger_114 (by decide) (fun hq40 => ?_) (fun hq40 => ?_)
      · have hm := (if_pos hq40).symm.trans hm
        refine lv_iinc (v := (v2 + 1)) (lv' := [(2, .int (v2 + 1)), (0, .ref (A a0)), (1, .int x1), (3, .int v3)]) hx hb dX6_addLedger_134 hl (k := 2) rfl rfl (by decide) rfl (fun ls hl => ?_)
        refine lv_goto (tgt := 81) hx hb dX6_addLedger_137 (by decide) ?_
        exact jk81 (v2 + 1) M hm H locs hw ls (lv_sub hl [1, 2, 0] rfl)
      · have hm := (if_neg hq40).symm.trans hm
        refine lv_aload_n hx hb dX6_addLedger_117 rfl (lv_at hl 0 rfl) ?_
        refine lv_aload_n hx hb dX6_addLedger_118 rfl (lv_at hl 0 rfl) ?_
        refine lv_iload_n hx hb dX6_addLedger_119 rfl (lv_at hl 1 rfl) ?_
        refine lv_iload_n hx hb dX6_addLedger_120 rfl (lv_at hl 2 rfl) ?_
        refine lv_iload_n hx hb dX6_addLedger_121 rfl (lv_at hl 3 rfl) ?_
        obtain ⟨z41, e42, hm⟩ := bd_some hm
        refine ki hw Fr_hi (rV hx hb hml hts hown hK hw (c_X6_memberOf l h0 e42) h0 (by decide) rfl (mkV 3 hts k_ml_RX6_35 k_im_yX6_memberOf k_se_yX6_memberOf k_in_RX6 k_co_yX6_memberOf hd_X6_memberOf ⟨Nat.le_of_ble_eq_true rfl, Nat.le_of_ble_eq_true rfl⟩) rfl hl.1 rfl (Nat.le_of_ble_eq_true rfl) dX6_addLedger_122 ⟨Nat.le_of_ble_eq_true rfl, Nat.le_of_ble_eq_true rfl⟩) (fun H locs hw => ?_)
        refine kv hw Fr_hi (rV hx hb hml hts hown hK hw (c_X6_add l h0 z41) h0 (by decide) rfl (mkV 1 hts k_ml_RX6_160 k_im_yX6_add k_se_yX6_add k_in_RX6 k_co_yX6_add hd_X6_add ⟨Nat.le_of_ble_eq_true rfl, Nat.le_of_ble_eq_true rfl⟩) rfl hl.1 rfl (Nat.le_of_ble_eq_true rfl) dX6_addLedger_125 ⟨Nat.le_of_ble_eq_true rfl, Nat.le_of_ble_eq_true rfl⟩) (fun H locs hw => ?_)
        refine lv_iinc (v := (v3 + 1)) (lv' := [(3, .int (v3 + 1)), (0, .ref (A a0)), (1, .int x1), (2, .int v2)]) hx hb dX6_addLedger_128 hl (k := 3) rfl rfl (by decide) rfl (fun ls hl => ?_)
        refine lv_goto (tgt := 107) hx hb dX6_addLedger_131 (by decide) ?_
        exact ih v2 (v3 + 1) (m_X6_add a0 z41 M) hm H locs hw ls (lv_sub hl [1, 2, 3, 0] rfl)
  have J81 : ∀  (n : Nat) (v2 : Int32) (M : Mem), m_X6_addLedger_L81 a0 x1 n v2 M = some z → ∀ (H : Heap) (locs : List Loc), WD D cy (Fr A G s.heap.size) A s.heap G M H locs → ∀ ls : Array Slot, lv_has ls 4 [(0, .ref (A a0)), (1, .int x1), (2, .int v2)] → W p l e (headSpec (wm yX6_addLedger cX6_addLedger 4 none) ({ frames := 4, cells := 0, slots := 0, locals := 96 } : Room)).room s m ([.ref (A a0), .int x1] : List Value).toArray below meth c H locs 0 0 (MQ below (va_Qv (fun (u : Mem) => u = z) (Po D cy A G (Fr A G s.heap.size)) (Fr A G s.heap.size)) ([.ref (A a0), .int x1] : List Value).toArray s 0 0 (Fr A G s.heap.size)) (F0 m 81 ls []) := by
    intro n
    induction n with
    | zero =>
      intro v2 M hm
      cases (show (none : Option Mem) = some z from hm)
    | succ n ih =>
      intro v2 M hm H locs hw ls hl
      have hm := (m_X6_addLedger_L81_s a0 x1 n v2 M).symm.trans hm
      refine lv_iload_n hx hb dX6_addLedger_81 rfl (lv_at hl 2 rfl) ?_
      refine lv_aload_n hx hb dX6_addLedger_82 rfl (lv_at hl 0 rfl) ?_
      refine lv_iload_n hx hb dX6_addLedger_83 rfl (lv_at hl 1 rfl) ?_
      refine lv_bipush (v := 6) hx hb dX6_addLedger_84 (by decide) ?_
      obtain ⟨z17, e18, hm⟩ := bd_some hm
      refine ki hw Fr_hi (rV hx hb hml hts hown hK hw (c_X6_of l h0 e18) h0 (by decide) rfl (mkV 2 hts k_ml_RX6_31 k_im_yX6_of k_se_yX6_of k_in_RX6 k_co_yX6_of hd_X6_of ⟨Nat.le_of_ble_eq_true rfl, Nat.le_of_ble_eq_true rfl⟩) rfl hl.1 rfl (Nat.le_of_ble_eq_true rfl) dX6_addLedger_86 ⟨Nat.le_of_ble_eq_true rfl, Nat.le_of_ble_eq_true rfl⟩) (fun H locs hw => ?_)
      refine lv_icmp_ge (tgt := 140) hx hb dX6_addLedger_89 (by decide) (fun hq19 => ?_) (fun hq19 => ?_)
      · have hm := (if_pos hq19).symm.trans hm
        refine lv_iconst (v := 0) hx hb dX6_addLedger_140 (by decide) ?_
        refine lv_istore_n (lv' := [(2, .int 0), (0, .ref (A a0)), (1, .int x1)]) hx hb dX6_addLedger_141 rfl hl (by decide) rfl (fun ls hl => ?_)
        exact J142 fuel 0 M hm H locs hw ls (lv_sub hl [1, 2, 0] rfl)
      · have hm := (if_neg hq19).symm.trans hm
        refine lv_aload_n hx hb dX6_addLedger_92 rfl (lv_at hl 0 rfl) ?_
        refine lv_aload_n hx hb dX6_addLedger_93 rfl (lv_at hl 0 rfl) ?_
        refine lv_iload_n hx hb dX6_addLedger_94 rfl (lv_at hl 1 rfl) ?_
        refine lv_bipush (v := 87) hx hb dX6_addLedger_95 (by decide) ?_
        refine lv_iload_n hx hb dX6_addLedger_97 rfl (lv_at hl 2 rfl) ?_
        refine lv_iadd hx hb dX6_addLedger_98 ?_
        obtain ⟨z36, e37, hm⟩ := bd_some hm
        refine ki hw Fr_hi (rV hx hb hml hts hown hK hw (c_X6_of l h0 e37) h0 (by decide) rfl (mkV 2 hts k_ml_RX6_31 k_im_yX6_of k_se_yX6_of k_in_RX6 k_co_yX6_of hd_X6_of ⟨Nat.le_of_ble_eq_true rfl, Nat.le_of_ble_eq_true rfl⟩) rfl hl.1 rfl (Nat.le_of_ble_eq_true rfl) dX6_addLedger_99 ⟨Nat.le_of_ble_eq_true rfl, Nat.le_of_ble_eq_true rfl⟩) (fun H locs hw => ?_)
        refine kv hw Fr_hi (rV hx hb hml hts hown hK hw (c_X6_add l h0 z36) h0 (by decide) rfl (mkV 1 hts k_ml_RX6_160 k_im_yX6_add k_se_yX6_add k_in_RX6 k_co_yX6_add hd_X6_add ⟨Nat.le_of_ble_eq_true rfl, Nat.le_of_ble_eq_true rfl⟩) rfl hl.1 rfl (Nat.le_of_ble_eq_true rfl) dX6_addLedger_102 ⟨Nat.le_of_ble_eq_true rfl, Nat.le_of_ble_eq_true rfl⟩) (fun H locs hw => ?_)
        refine lv_iconst (v := 0) hx hb dX6_addLedger_105 (by decide) ?_
        refine lv_istore_n (lv' := [(3, .int 0), (0, .ref (A a0)), (1, .int x1), (2, .int v2)]) hx hb dX6_addLedger_106 rfl hl (by decide) rfl (fun ls hl => ?_)
        exact J107 (fun w0 w1 => m_X6_addLedger_L81 a0 x1 n w0 w1) (fun w0 w1 hh H locs hw ls hl => ih w0 w1 hh H locs hw ls hl) fuel v2 0 (m_X6_add a0 z36 M) hm H locs hw ls (lv_sub hl [1, 2, 3, 0] rfl)
  unfold m_X6_addLedger at hm
  revert hw
  suffices K : ∀ (H : Heap) (locs : List Loc), WD D cy (Fr A G s.heap.size) A s.heap G M H locs → W p l e (headSpec (wm yX6_addLedger cX6_addLedger 4 none) ({ frames := 4, cells := 0, slots := 0, locals := 96 } : Room)).room s m ([.ref (A a0), .int x1] : List Value).toArray below meth c H locs 0 0 (MQ below (va_Qv (fun (u : Mem) => u = z) (Po D cy A G (Fr A G s.heap.size)) (Fr A G s.heap.size)) ([.ref (A a0), .int x1] : List Value).toArray s 0 0 (Fr A G s.heap.size)) (F0 m 0 ls []) from fun hw => K _ _ hw
  intro H locs hw
  refine lv_aload_n hx hb dX6_addLedger_0 rfl (lv_at hl 0 rfl) ?_
  refine lv_aload_n hx hb dX6_addLedger_1 rfl (lv_at hl 0 rfl) ?_
  refine lv_iload_n hx hb dX6_addLedger_2 rfl (lv_at hl 1 rfl) ?_
  refine lv_iconst (v := 0) hx hb dX6_addLedger_3 (by decide) ?_
  obtain ⟨z1, e2, hm⟩ := bd_some hm
  refine ki hw Fr_hi (rV hx hb hml hts hown hK hw (c_X6_of l h0 e2) h0 (by decide) rfl (mkV 2 hts k_ml_RX6_31 k_im_yX6_of k_se_yX6_of k_in_RX6 k_co_yX6_of hd_X6_of ⟨Nat.le_of_ble_eq_true rfl, Nat.le_of_ble_eq_true rfl⟩) rfl hl.1 rfl (Nat.le_of_ble_eq_true rfl) dX6_addLedger_4 ⟨Nat.le_of_ble_eq_true rfl, Nat.le_of_ble_eq_true rfl⟩) (fun H locs hw => ?_)
  refine kv hw Fr_hi (rV hx hb hml hts hown hK hw (c_X6_add l h0 z1) h0 (by decide) rfl (mkV 1 hts k_ml_RX6_160 k_im_yX6_add k_se_yX6_add k_in_RX6 k_co_yX6_add hd_X6_add ⟨Nat.le_of_ble_eq_true rfl, Nat.le_of_ble_eq_true rfl⟩) rfl hl.1 rfl (Nat.le_of_ble_eq_true rfl) dX6_addLedger_7 ⟨Nat.le_of_ble_eq_true rfl, Nat.le_of_ble_eq_true rfl⟩) (fun H locs hw => ?_)
  refine lv_aload_n hx hb dX6_addLedger_10 rfl (lv_at hl 0 rfl) ?_
  refine lv_aload_n hx hb dX6_addLedger_11 rfl (lv_at hl 0 rfl) ?_
  refine lv_iload_n hx hb dX6_addLedger_12 rfl (lv_at hl 1 rfl) ?_
  refine lv_iconst (v := 1) hx hb dX6_addLedger_13 (by decide) ?_
  obtain ⟨z3, e4, hm⟩ := bd_some hm
  refine ki hw Fr_hi (rV hx hb hml hts hown hK hw (c_X6_of l h0 e4) h0 (by decide) rfl (mkV 2 hts k_ml_RX6_31 k_im_yX6_of k_se_yX6_of k_in_RX6 k_co_yX6_of hd_X6_of ⟨Nat.le_of_ble_eq_true rfl, Nat.le_of_ble_eq_true rfl⟩) rfl hl.1 rfl (Nat.le_of_ble_eq_true rfl) dX6_addLedger_14 ⟨Nat.le_of_ble_eq_true rfl, Nat.le_of_ble_eq_true rfl⟩) (fun H locs hw => ?_)
  refine kv hw Fr_hi (rV hx hb hml hts hown hK hw (c_X6_add l h0 z3) h0 (by decide) rfl (mkV 1 hts k_ml_RX6_160 k_im_yX6_add k_se_yX6_add k_in_RX6 k_co_yX6_add hd_X6_add ⟨Nat.le_of_ble_eq_true rfl, Nat.le_of_ble_eq_true rfl⟩) rfl hl.1 rfl (Nat.le_of_ble_eq_true rfl) dX6_addLedger_17 ⟨Nat.le_of_ble_eq_true rfl, Nat.le_of_ble_eq_true rfl⟩) (fun H locs hw => ?_)
  refine lv_aload_n hx hb dX6_addLedger_20 rfl (lv_at hl 0 rfl) ?_
  refine lv_aload_n hx hb dX6_addLedger_21 rfl (lv_at hl 0 rfl) ?_
  refine lv_iload_n hx hb dX6_addLedger_22 rfl (lv_at hl 1 rfl) ?_
  refine lv_iconst (v := 2) hx hb dX6_addLedger_23 (by decide) ?_
  obtain ⟨z5, e6, hm⟩ := bd_some hm
  refine ki hw Fr_hi (rV hx hb hml hts hown hK hw (c_X6_of l h0 e6) h0 (by decide) rfl (mkV 2 hts k_ml_RX6_31 k_im_yX6_of k_se_yX6_of k_in_RX6 k_co_yX6_of hd_X6_of ⟨Nat.le_of_ble_eq_true rfl, Nat.le_of_ble_eq_true rfl⟩) rfl hl.1 rfl (Nat.le_of_ble_eq_true rfl) dX6_addLedger_24 ⟨Nat.le_of_ble_eq_true rfl, Nat.le_of_ble_eq_true rfl⟩) (fun H locs hw => ?_)
  refine kv hw Fr_hi (rV hx hb hml hts hown hK hw (c_X6_add l h0 z5) h0 (by decide) rfl (mkV 1 hts k_ml_RX6_160 k_im_yX6_add k_se_yX6_add k_in_RX6 k_co_yX6_add hd_X6_add ⟨Nat.le_of_ble_eq_true rfl, Nat.le_of_ble_eq_true rfl⟩) rfl hl.1 rfl (Nat.le_of_ble_eq_true rfl) dX6_addLedger_27 ⟨Nat.le_of_ble_eq_true rfl, Nat.le_of_ble_eq_true rfl⟩) (fun H locs hw => ?_)
  refine lv_aload_n hx hb dX6_addLedger_30 rfl (lv_at hl 0 rfl) ?_
  refine lv_aload_n hx hb dX6_addLedger_31 rfl (lv_at hl 0 rfl) ?_
  refine lv_iload_n hx hb dX6_addLedger_32 rfl (lv_at hl 1 rfl) ?_
  refine lv_iconst (v := 3) hx hb dX6_addLedger_33 (by decide) ?_
  obtain ⟨z7, e8, hm⟩ := bd_some hm
  refine ki hw Fr_hi (rV hx hb hml hts hown hK hw (c_X6_of l h0 e8) h0 (by decide) rfl (mkV 2 hts k_ml_RX6_31 k_im_yX6_of k_se_yX6_of k_in_RX6 k_co_yX6_of hd_X6_of ⟨Nat.le_of_ble_eq_true rfl, Nat.le_of_ble_eq_true rfl⟩) rfl hl.1 rfl (Nat.le_of_ble_eq_true rfl) dX6_addLedger_34 ⟨Nat.le_of_ble_eq_true rfl, Nat.le_of_ble_eq_true rfl⟩) (fun H locs hw => ?_)
  refine kv hw Fr_hi (rV hx hb hml hts hown hK hw (c_X6_add l h0 z7) h0 (by decide) rfl (mkV 1 hts k_ml_RX6_160 k_im_yX6_add k_se_yX6_add k_in_RX6 k_co_yX6_add hd_X6_add ⟨Nat.le_of_ble_eq_true rfl, Nat.le_of_ble_eq_true rfl⟩) rfl hl.1 rfl (Nat.le_of_ble_eq_true rfl) dX6_addLedger_37 ⟨Nat.le_of_ble_eq_true rfl, Nat.le_of_ble_eq_true rfl⟩) (fun H locs hw => ?_)
  refine lv_aload_n hx hb dX6_addLedger_40 rfl (lv_at hl 0 rfl) ?_
  refine lv_aload_n hx hb dX6_addLedger_41 rfl (lv_at hl 0 rfl) ?_
  refine lv_iload_n hx hb dX6_addLedger_42 rfl (lv_at hl 1 rfl) ?_
  obtain ⟨z9, e10, hm⟩ := bd_some hm
  refine ki hw Fr_hi (rV hx hb hml hts hown hK hw (c_X6_readable l h0 e10) h0 (by decide) rfl (mkV 1 hts k_ml_RX6_139 k_im_yX6_readable k_se_yX6_readable k_in_RX6 k_co_yX6_readable hd_X6_readable ⟨Nat.le_of_ble_eq_true rfl, Nat.le_of_ble_eq_true rfl⟩) rfl hl.1 rfl (Nat.le_of_ble_eq_true rfl) dX6_addLedger_43 ⟨Nat.le_of_ble_eq_true rfl, Nat.le_of_ble_eq_true rfl⟩) (fun H locs hw => ?_)
  refine kv hw Fr_hi (rV hx hb hml hts hown hK hw (c_X6_add l h0 z9) h0 (by decide) rfl (mkV 1 hts k_ml_RX6_160 k_im_yX6_add k_se_yX6_add k_in_RX6 k_co_yX6_add hd_X6_add ⟨Nat.le_of_ble_eq_true rfl, Nat.le_of_ble_eq_true rfl⟩) rfl hl.1 rfl (Nat.le_of_ble_eq_true rfl) dX6_addLedger_46 ⟨Nat.le_of_ble_eq_true rfl, Nat.le_of_ble_eq_true rfl⟩) (fun H locs hw => ?_)
  refine lv_aload_n hx hb dX6_addLedger_49 rfl (lv_at hl 0 rfl) ?_
  refine lv_aload_n hx hb dX6_addLedger_50 rfl (lv_at hl 0 rfl) ?_
  refine lv_iload_n hx hb dX6_addLedger_51 rfl (lv_at hl 1 rfl) ?_
  refine lv_iconst (v := 4) hx hb dX6_addLedger_52 (by decide) ?_
  obtain ⟨z11, e12, hm⟩ := bd_some hm
  refine ki hw Fr_hi (rV hx hb hml hts hown hK hw (c_X6_of l h0 e12) h0 (by decide) rfl (mkV 2 hts k_ml_RX6_31 k_im_yX6_of k_se_yX6_of k_in_RX6 k_co_yX6_of hd_X6_of ⟨Nat.le_of_ble_eq_true rfl, Nat.le_of_ble_eq_true rfl⟩) rfl hl.1 rfl (Nat.le_of_ble_eq_true rfl) dX6_addLedger_53 ⟨Nat.le_of_ble_eq_true rfl, Nat.le_of_ble_eq_true rfl⟩) (fun H locs hw => ?_)
  refine kv hw Fr_hi (rV hx hb hml hts hown hK hw (c_X6_add l h0 z11) h0 (by decide) rfl (mkV 1 hts k_ml_RX6_160 k_im_yX6_add k_se_yX6_add k_in_RX6 k_co_yX6_add hd_X6_add ⟨Nat.le_of_ble_eq_true rfl, Nat.le_of_ble_eq_true rfl⟩) rfl hl.1 rfl (Nat.le_of_ble_eq_true rfl) dX6_addLedger_56 ⟨Nat.le_of_ble_eq_true rfl, Nat.le_of_ble_eq_true rfl⟩) (fun H locs hw => ?_)
  refine lv_aload_n hx hb dX6_addLedger_59 rfl (lv_at hl 0 rfl) ?_
  refine lv_aload_n hx hb dX6_addLedger_60 rfl (lv_at hl 0 rfl) ?_
  refine lv_iload_n hx hb dX6_addLedger_61 rfl (lv_at hl 1 rfl) ?_
  obtain ⟨z13, e14, hm⟩ := bd_some hm
  refine ki hw Fr_hi (rV hx hb hml hts hown hK hw (c_X6_under l h0 e14) h0 (by decide) rfl (mkV 1 hts k_ml_RX6_151 k_im_yX6_under k_se_yX6_under k_in_RX6 k_co_yX6_under hd_X6_under ⟨Nat.le_of_ble_eq_true rfl, Nat.le_of_ble_eq_true rfl⟩) rfl hl.1 rfl (Nat.le_of_ble_eq_true rfl) dX6_addLedger_62 ⟨Nat.le_of_ble_eq_true rfl, Nat.le_of_ble_eq_true rfl⟩) (fun H locs hw => ?_)
  refine kv hw Fr_hi (rV hx hb hml hts hown hK hw (c_X6_add l h0 z13) h0 (by decide) rfl (mkV 1 hts k_ml_RX6_160 k_im_yX6_add k_se_yX6_add k_in_RX6 k_co_yX6_add hd_X6_add ⟨Nat.le_of_ble_eq_true rfl, Nat.le_of_ble_eq_true rfl⟩) rfl hl.1 rfl (Nat.le_of_ble_eq_true rfl) dX6_addLedger_65 ⟨Nat.le_of_ble_eq_true rfl, Nat.le_of_ble_eq_true rfl⟩) (fun H locs hw => ?_)
  refine lv_aload_n hx hb dX6_addLedger_68 rfl (lv_at hl 0 rfl) ?_
  refine lv_aload_n hx hb dX6_addLedger_69 rfl (lv_at hl 0 rfl) ?_
  refine lv_iload_n hx hb dX6_addLedger_70 rfl (lv_at hl 1 rfl) ?_
  refine lv_bipush (v := 6) hx hb dX6_addLedger_71 (by decide) ?_
  obtain ⟨z15, e16, hm⟩ := bd_some hm
  refine ki hw Fr_hi (rV hx hb hml hts hown hK hw (c_X6_of l h0 e16) h0 (by decide) rfl (mkV 2 hts k_ml_RX6_31 k_im_yX6_of k_se_yX6_of k_in_RX6 k_co_yX6_of hd_X6_of ⟨Nat.le_of_ble_eq_true rfl, Nat.le_of_ble_eq_true rfl⟩) rfl hl.1 rfl (Nat.le_of_ble_eq_true rfl) dX6_addLedger_73 ⟨Nat.le_of_ble_eq_true rfl, Nat.le_of_ble_eq_true rfl⟩) (fun H locs hw => ?_)
  refine kv hw Fr_hi (rV hx hb hml hts hown hK hw (c_X6_add l h0 z15) h0 (by decide) rfl (mkV 1 hts k_ml_RX6_160 k_im_yX6_add k_se_yX6_add k_in_RX6 k_co_yX6_add hd_X6_add ⟨Nat.le_of_ble_eq_true rfl, Nat.le_of_ble_eq_true rfl⟩) rfl hl.1 rfl (Nat.le_of_ble_eq_true rfl) dX6_addLedger_76 ⟨Nat.le_of_ble_eq_true rfl, Nat.le_of_ble_eq_true rfl⟩) (fun H locs hw => ?_)
  refine lv_iconst (v := 0) hx hb dX6_addLedger_79 (by decide) ?_
  refine lv_istore_n (lv' := [(2, .int 0), (0, .ref (A a0)), (1, .int x1)]) hx hb dX6_addLedger_80 rfl hl (by decide) rfl (fun ls hl => ?_)
  exact J81 fuel 0 (m_X6_add a0 z15 (m_X6_add a0 z13 (m_X6_add a0 z11 (m_X6_add a0 z9 (m_X6_add a0 z7 (m_X6_add a0 z5 (m_X6_add a0 z3 (m_X6_add a0 z1 M)))))))) hm H locs hw ls (lv_sub hl [1, 2, 0] rfl)
