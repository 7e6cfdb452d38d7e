set_option maxHeartbeats 4000000 in
set_option maxRecDepth 100000 in
theorem c_L_low (l : Launch) {D : va_G} {cy : Nat → ClassId} {A : Nat → Nat} {G : Nat → Bool} {M : Mem} {sz : Nat} {x0 : Int32} {x1 : Int32}   {z : Int32} (hm : m_L_low x0 x1 = some z) : Met l yL_low (wm yL_low cL_low 2 (some .int)) ({ frames := 0, cells := 0, slots := 0, locals := 0 } : Room) (va_Pc [.int x0, .int x1] (Pr D cy A G M sz)) (va_Qi (fun (r' : Int32) (u : Mem) => r' = z ∧ u = M) (Po D cy A G (Fr A G sz)) (Fr A G sz))  0 0 (Fr A G sz) := by
  refine ofB (Qc := fun sz => va_Qi (fun (r' : Int32) (u : Mem) => r' = z ∧ u = M) (Po D cy A G (Fr A G sz)) (Fr A G sz)) (by decide +kernel) (Nat.le_of_ble_eq_true rfl) ?_
  intro p e s m below meth c hx hb hr hts hown hlocks hml hmn hK hw ls hl
  have hl : lv_has ls 2 [(0, .int x0), (1, .int x1)] := hl
  unfold m_L_low at hm
  revert hw
  suffices K : ∀ (H : Heap) (locs : List Loc), WD D cy (Fr A G s.heap.size) A s.heap G M H locs → W p l e (headSpec (wm yL_low cL_low 2 (some .int)) ({ frames := 0, cells := 0, slots := 0, locals := 0 } : Room)).room s m ([.int x0, .int x1] : List Value).toArray below meth c H locs 0 0 (MQ below (va_Qi (fun (r' : Int32) (u : Mem) => r' = z ∧ u = M) (Po D cy A G (Fr A G s.heap.size)) (Fr A G s.heap.size)) ([.int x0, .int x1] : List Value).toArray s 0 0 (Fr A G s.heap.size)) (F0 m 0 ls []) from fun hw => K _ _ hw
  intro H locs hw
  refine lv_iload_n hx hb dL_low_0 rfl (lv_at hl 0 rfl) ?_
  refine lv_ldc hx hb hown (hts _ k_ct_RL_7) dL_low_1 ?_
  refine lv_iand hx hb dL_low_3 ?_
  refine lv_iload_n hx hb dL_low_4 rfl (lv_at hl 1 rfl) ?_
  obtain ⟨hz1, hm⟩ := ck_some hm
  refine lv_irem hx hb dL_low_5 hz1 ?_
  cases hm
  exact eI hx hb hr hlocks hK hw dL_low_6
set_option maxHeartbeats 4000000 in
set_option maxRecDepth 100000 in
theorem c_L_isMember (l : Launch) {D : va_G} {cy : Nat → ClassId} {A : Nat → Nat} {G : Nat → Bool} {M : Mem} {sz : Nat} {a0 : Nat} {x1 : Int32} {x2 : Int32} {x3 : Int32} (h0 : TT G 4 a0)  {z : Int32} (hm : m_L_isMember a0 x1 x2 x3 M = some z) : Met l yL_isMember (wm yL_isMember cL_isMember 6 (some .boolean)) ({ frames := 3, cells := 0, slots := 0, locals := 86 } : Room) (va_Pc [.ref (A a0), .int x1, .int x2, .int x3] (Pr D cy A G M sz)) (va_Qi (fun (r' : Int32) (u : Mem) => r' = z ∧ u = M) (Po D cy A G (Fr A G sz)) (Fr A G sz))  0 0 (Fr A G sz) := by
  refine ofB (Qc := fun sz => va_Qi (fun (r' : Int32) (u : Mem) => r' = z ∧ u = M) (Po D cy A G (Fr A G sz)) (Fr A G sz)) (by decide +kernel) (Nat.le_of_ble_eq_true rfl) ?_
  intro p e s m below meth c hx hb hr hts hown hlocks hml hmn hK hw ls hl
  have hl : lv_has ls 6 [(0, .ref (A a0)), (1, .int x1), (2, .int x2), (3, .int x3)] := hl
  have J6 : ∀  (n : Nat) (v4 : Int32) (v5 : Int32), m_L_isMember_L6 a0 x1 x2 x3 M n v4 v5 = some z → ∀ (H : Heap) (locs : List Loc), WD D cy (Fr A G s.heap.size) A s.heap G M H locs → ∀ ls : Array Slot, lv_has ls 6 [(0, .ref (A a0)), (1, .int x1), (2, .int x2), (3, .int x3), (4, .int v4), (5, .int v5)] → W p l e (headSpec (wm yL_isMember cL_isMember 6 (some .boolean)) ({ frames := 3, cells := 0, slots := 0, locals := 86 } : Room)).room s m ([.ref (A a0), .int x1, .int x2, .int x3] : List Value).toArray below meth c H locs 0 0 (MQ below (va_Qi (fun (r' : Int32) (u : Mem) => r' = z ∧ u = M) (Po D cy A G (Fr A G s.heap.size)) (Fr A G s.heap.size)) ([.ref (A a0), .int x1, .int x2, .int x3] : List Value).toArray s 0 0 (Fr A G s.heap.size)) (F0 m 6 ls []) := by
    intro n
    induction n with
    | zero =>
      intro v4 v5 hm
      cases (show (none : Option Int32) = some z from hm)
    | succ n ih =>
      intro v4 v5 hm H locs hw ls hl
      have hm := (m_L_isMember_L6_s a0 x1 x2 x3 M n v4 v5).symm.trans hm
      refine lv_iload hx hb dL_isMember_6 (lv_at hl 5 rfl) ?_
      refine lv_iload_n hx hb dL_isMember_8 rfl (lv_at hl 2 rfl) ?_
      refine lv_icmp_ge (tgt := 48) hx hb dL_isMember_9 (by decide) (fun hq1 => ?_) (fun hq1 => ?_)
      · have hm := (if_pos hq1).symm.trans hm
        refine lv_iload hx hb dL_isMember_48 (lv_at hl 4 rfl) ?_
        obtain ⟨hz2, hm⟩ := ck_some hm
        cases hm
        exact eZ hz2 hx hb hr hlocks hK hw dL_isMember_50
      · have hm := (if_neg hq1).symm.trans hm
        refine lv_iload hx hb dL_isMember_12 (lv_at hl 4 rfl) ?_
        refine lv_if_ne (tgt := 35) hx hb dL_isMember_14 (by decide) (fun hq3 => ?_) (fun hq3 => ?_)
        · have hm := (if_neg hq3).symm.trans hm
          refine lv_iconst (v := 1) hx hb dL_isMember_35 (by decide) ?_
          refine lv_goto (tgt := 40) hx hb dL_isMember_36 (by decide) ?_
          refine lv_istore (lv' := [(4, .int 1), (0, .ref (A a0)), (1, .int x1), (2, .int x2), (3, .int x3), (5, .int v5)]) hx hb dL_isMember_40 hl (by decide) rfl (fun ls hl => ?_)
          refine lv_iinc (v := (v5 + 1)) (lv' := [(5, .int (v5 + 1)), (4, .int 1), (0, .ref (A a0)), (1, .int x1), (2, .int x2), (3, .int x3)]) hx hb dL_isMember_42 hl (k := 5) rfl rfl (by decide) rfl (fun ls hl => ?_)
          refine lv_goto (tgt := 6) hx hb dL_isMember_45 (by decide) ?_
          exact ih 1 (v5 + 1) hm H locs hw ls (lv_sub hl [2, 3, 4, 5, 1, 0] rfl)
        · have hm := (if_pos hq3).symm.trans hm
          refine lv_aload_n hx hb dL_isMember_17 rfl (lv_at hl 0 rfl) ?_
          refine lv_iload_n hx hb dL_isMember_18 rfl (lv_at hl 1 rfl) ?_
          refine lv_aload_n hx hb dL_isMember_19 rfl (lv_at hl 0 rfl) ?_
          refine lv_iload_n hx hb dL_isMember_20 rfl (lv_at hl 1 rfl) ?_
          obtain ⟨z4, e5, hm⟩ := bd_some hm
          refine ki hw Fr_hi (rV hx hb hml hts hown hK hw (c_X5_fragmentCount l h0 e5) h0 (by decide) rfl (mkV 1 hts k_ml_RL_8 k_im_yX5_fragmentCount k_se_yX5_fragmentCount k_in_RX5 k_co_yX5_fragmentCount hd_X5_fragmentCount ⟨Nat.le_of_ble_eq_true rfl, Nat.le_of_ble_eq_true rfl⟩) rfl hl.1 rfl (Nat.le_of_ble_eq_true rfl) dL_isMember_21 ⟨Nat.le_of_ble_eq_true rfl, Nat.le_of_ble_eq_true rfl⟩) (fun H locs hw => ?_)
          refine lv_iconst (v := 1) hx hb dL_isMember_24 (by decide) ?_
          refine lv_isub hx hb dL_isMember_25 ?_
          refine lv_iload hx hb dL_isMember_26 (lv_at hl 5 rfl) ?_
          obtain ⟨z6, e7, hm⟩ := bd_some hm
          refine ki hw Fr_hi (rV hx hb hml hts hown hK hw (c_X5_member l h0 e7) h0 (by decide) rfl (mkV 3 hts k_ml_RL_14 k_im_yX5_member k_se_yX5_member k_in_RX5 k_co_yX5_member hd_X5_member ⟨Nat.le_of_ble_eq_true rfl, Nat.le_of_ble_eq_true rfl⟩) rfl hl.1 rfl (Nat.le_of_ble_eq_true rfl) dL_isMember_28 ⟨Nat.le_of_ble_eq_true rfl, Nat.le_of_ble_eq_true rfl⟩) (fun H locs hw => ?_)
          refine lv_iload_n hx hb dL_isMember_31 rfl (lv_at hl 3 rfl) ?_
          refine lv_icmp_ne (tgt := 39) hx hb dL_isMember_32 (by decide) (fun hq8 => ?_) (fun hq8 => ?_)
          · have hm := (if_neg hq8).symm.trans hm
            refine lv_iconst (v := 0) hx hb dL_isMember_39 (by decide) ?_
            refine lv_istore (lv' := [(4, .int 0), (0, .ref (A a0)), (1, .int x1), (2, .int x2), (3, .int x3), (5, .int v5)]) hx hb dL_isMember_40 hl (by decide) rfl (fun ls hl => ?_)
            refine lv_iinc (v := (v5 + 1)) (lv' := [(5, .int (v5 + 1)), (4, .int 0), (0, .ref (A a0)), (1, .int x1), (2, .int x2), (3, .int x3)]) hx hb dL_isMember_42 hl (k := 5) rfl rfl (by decide) rfl (fun ls hl => ?_)
            refine lv_goto (tgt := 6) hx hb dL_isMember_45 (by decide) ?_
            exact ih 0 (v5 + 1) hm H locs hw ls (lv_sub hl [2, 3, 4, 5, 1, 0] rfl)
          · have hm := (if_pos hq8).symm.trans hm
            refine lv_iconst (v := 1) hx hb dL_isMember_35 (by decide) ?_
            refine lv_goto (tgt := 40) hx hb dL_isMember_36 (by decide) ?_
            refine lv_istore (lv' := [(4, .int 1), (0, .ref (A a0)), (1, .int x1), (2, .int x2), (3, .int x3), (5, .int v5)]) hx hb dL_isMember_40 hl (by decide) rfl (fun ls hl => ?_)
            refine lv_iinc (v := (v5 + 1)) (lv' := [(5, .int (v5 + 1)), (4, .int 1), (0, .ref (A a0)), (1, .int x1), (2, .int x2), (3, .int x3)]) hx hb dL_isMember_42 hl (k := 5) rfl rfl (by decide) rfl (fun ls hl => ?_)
            refine lv_goto (tgt := 6) hx hb dL_isMember_45 (by decide) ?_
            exact ih 1 (v5 + 1) hm H locs hw ls (lv_sub hl [2, 3, 4, 5, 1, 0] rfl)
  unfold m_L_isMember at hm
  revert hw
  suffices K : ∀ (H : Heap) (locs : List Loc), WD D cy (Fr A G s.heap.size) A s.heap G M H locs → W p l e (headSpec (wm yL_isMember cL_isMember 6 (some .boolean)) ({ frames := 3, cells := 0, slots := 0, locals := 86 } : Room)).room s m ([.ref (A a0), .int x1, .int x2, .int x3] : List Value).toArray below meth c H locs 0 0 (MQ below (va_Qi (fun (r' : Int32) (u : Mem) => r' = z ∧ u = M) (Po D cy A G (Fr A G s.heap.size)) (Fr A G s.heap.size)) ([.ref (A a0), .int x1, .int x2, .int x3] : List Value).toArray s 0 0 (Fr A G s.heap.size)) (F0 m 0 ls []) from fun hw => K _ _ hw
  intro H locs hw
  refine lv_iconst (v := 0) hx hb dL_isMember_0 (by decide) ?_
  refine lv_istore (lv' := [(4, .int 0), (0, .ref (A a0)), (1, .int x1), (2, .int x2), (3, .int x3)]) hx hb dL_isMember_1 hl (by decide) rfl (fun ls hl => ?_)
  refine lv_iconst (v := 0) hx hb dL_isMember_3 (by decide) ?_
  refine lv_istore (lv' := [(5, .int 0), (4, .int 0), (0, .ref (A a0)), (1, .int x1), (2, .int x2), (3, .int x3)]) hx hb dL_isMember_4 hl (by decide) rfl (fun ls hl => ?_)
  exact J6 fuel 0 0 hm H locs hw ls (lv_sub hl [2, 3, 4, 5, 1, 0] rfl)
set_option maxHeartbeats 4000000 in
set_option maxRecDepth 100000 in
theorem c_L_canReplace (l : Launch) {D : va_G} {cy : Nat → ClassId} {A : Nat → Nat} {G : Nat → Bool} {M : Mem} {sz : Nat} {a0 : Nat} {x1 : Int32} {x2 : Int32} {n3 : Nat} {a3 : Nat} {x4 : Int32} (h0 : TT G 4 a0) (h3 : TR G n3 a3)  {z : Int32} (hm : m_L_canReplace a0 x1 x2 n3 a3 x4 M = some z) : Met l yL_canReplace (wm yL_canReplace cL_canReplace 7 (some .boolean)) ({ frames := 4, cells := 0, slots := 0, locals := 111 } : Room) (va_Pc [.ref (A a0), .int x1, .int x2, .ref (A a3), .int x4] (Pr D cy A G M sz)) (va_Qi (fun (r' : Int32) (u : Mem) => r' = z ∧ u = M) (Po D cy A G (Fr A G sz)) (Fr A G sz))  0 0 (Fr A G sz) := by
  refine ofB (Qc := fun sz => va_Qi (fun (r' : Int32) (u : Mem) => r' = z ∧ u = M) (Po D cy A G (Fr A G sz)) (Fr A G sz)) (by decide +kernel) (Nat.le_of_ble_eq_true rfl) ?_
  intro p e s m below meth c hx hb hr hts hown hlocks hml hmn hK hw ls hl
  have hl : lv_has ls 7 [(0, .ref (A a0)), (1, .int x1), (2, .int x2), (3, .ref (A a3)), (4, .int x4)] := hl
  have J6 : ∀  (n : Nat) (v5 : Int32) (v6 : Int32), m_L_canReplace_L6 a0 x1 x2 n3 a3 x4 M n v5 v6 = some z → ∀ (H : Heap) (locs : List Loc), WD D cy (Fr A G s.heap.size) A s.heap G M H locs → ∀ ls : Array Slot, lv_has ls 7 [(0, .ref (A a0)), (1, .int x1), (2, .int x2), (3, .ref (A a3)), (4, .int x4), (5, .int v5), (6, .int v6)] → W p l e (headSpec (wm yL_canReplace cL_canReplace 7 (some .boolean)) ({ frames := 4, cells := 0, slots := 0, locals := 111 } : Room)).room s m ([.ref (A a0), .int x1, .int x2, .ref (A a3), .int x4] : List Value).toArray below meth c H locs 0 0 (MQ below (va_Qi (fun (r' : Int32) (u : Mem) => r' = z ∧ u = M) (Po D cy A G (Fr A G s.heap.size)) (Fr A G s.heap.size)) ([.ref (A a0), .int x1, .int x2, .ref (A a3), .int x4] : List Value).toArray s 0 0 (Fr A G s.heap.size)) (F0 m 6 ls []) := by
    intro n
    induction n with
    | zero =>
      intro v5 v6 hm
      cases (show (none : Option Int32) = some z from hm)
    | succ n ih =>
      intro v5 v6 hm H locs hw ls hl
      have hm := (m_L_canReplace_L6_s a0 x1 x2 n3 a3 x4 M n v5 v6).symm.trans hm
      refine lv_iload hx hb dL_canReplace_6 (lv_at hl 6 rfl) ?_
      refine lv_iload hx hb dL_canReplace_8 (lv_at hl 4 rfl) ?_
      refine lv_icmp_ge (tgt := 49) hx hb dL_canReplace_10 (by decide) (fun hq1 => ?_) (fun hq1 => ?_)
      · have hm := (if_pos hq1).symm.trans hm
        refine lv_iload hx hb dL_canReplace_49 (lv_at hl 5 rfl) ?_
        obtain ⟨hz2, hm⟩ := ck_some hm
        cases hm
        exact eZ hz2 hx hb hr hlocks hK hw dL_canReplace_51
      · have hm := (if_neg hq1).symm.trans hm
        refine lv_iload hx hb dL_canReplace_13 (lv_at hl 5 rfl) ?_
        refine lv_if_ne (tgt := 36) hx hb dL_canReplace_15 (by decide) (fun hq3 => ?_) (fun hq3 => ?_)
        · have hm := (if_neg hq3).symm.trans hm
          refine lv_iconst (v := 1) hx hb dL_canReplace_36 (by decide) ?_
          refine lv_goto (tgt := 41) hx hb dL_canReplace_37 (by decide) ?_
          refine lv_istore (lv' := [(5, .int 1), (0, .ref (A a0)), (1, .int x1), (2, .int x2), (3, .ref (A a3)), (4, .int x4), (6, .int v6)]) hx hb dL_canReplace_41 hl (by decide) rfl (fun ls hl => ?_)
          refine lv_iinc (v := (v6 + 1)) (lv' := [(6, .int (v6 + 1)), (5, .int 1), (0, .ref (A a0)), (1, .int x1), (2, .int x2), (3, .ref (A a3)), (4, .int x4)]) hx hb dL_canReplace_43 hl (k := 6) rfl rfl (by decide) rfl (fun ls hl => ?_)
          refine lv_goto (tgt := 6) hx hb dL_canReplace_46 (by decide) ?_
          exact ih 1 (v6 + 1) hm H locs hw ls (lv_sub hl [2, 3, 4, 5, 6, 1, 0] rfl)
        · have hm := (if_pos hq3).symm.trans hm
          refine lv_aload_n hx hb dL_canReplace_18 rfl (lv_at hl 3 rfl) ?_
          refine lv_iload hx hb dL_canReplace_19 (lv_at hl 6 rfl) ?_
          obtain ⟨hi4, hm⟩ := ck_some hm
          refine gI hx hb hK hw h3 hi4 dL_canReplace_21 ?_
          refine lv_if_ne (tgt := 40) hx hb dL_canReplace_22 (by decide) (fun hq5 => ?_) (fun hq5 => ?_)
          · have hm := (if_neg hq5).symm.trans hm
            refine lv_iconst (v := 0) hx hb dL_canReplace_40 (by decide) ?_
            refine lv_istore (lv' := [(5, .int 0), (0, .ref (A a0)), (1, .int x1), (2, .int x2), (3, .ref (A a3)), (4, .int x4), (6, .int v6)]) hx hb dL_canReplace_41 hl (by decide) rfl (fun ls hl => ?_)
            refine lv_iinc (v := (v6 + 1)) (lv' := [(6, .int (v6 + 1)), (5, .int 0), (0, .ref (A a0)), (1, .int x1), (2, .int x2), (3, .ref (A a3)), (4, .int x4)]) hx hb dL_canReplace_43 hl (k := 6) rfl rfl (by decide) rfl (fun ls hl => ?_)
            refine lv_goto (tgt := 6) hx hb dL_canReplace_46 (by decide) ?_
            exact ih 0 (v6 + 1) hm H locs hw ls (lv_sub hl [2, 3, 4, 5, 6, 1, 0] rfl)
          · have hm := (if_pos hq5).symm.trans hm
            refine lv_aload_n hx hb dL_canReplace_25 rfl (lv_at hl 0 rfl) ?_
            refine lv_iload_n hx hb dL_canReplace_26 rfl (lv_at hl 1 rfl) ?_
            refine lv_iload_n hx hb dL_canReplace_27 rfl (lv_at hl 2 rfl) ?_
            refine lv_iload hx hb dL_canReplace_28 (lv_at hl 6 rfl) ?_
            obtain ⟨z6, e7, hm⟩ := bd_some hm
            refine ki hw Fr_hi (rS hx hb hml hts hown hK hw (c_L_isMember l h0 e7) (mkS 4 hts k_ml_RL_18 k_st_yL_isMember k_in_RL k_co_yL_isMember hd_L_isMember ⟨Nat.le_of_ble_eq_true rfl, Nat.le_of_ble_eq_true rfl⟩) rfl hl.1 rfl (Nat.le_of_ble_eq_true rfl) dL_canReplace_30 ⟨Nat.le_of_ble_eq_true rfl, Nat.le_of_ble_eq_true rfl⟩) (fun H locs hw => ?_)
            refine lv_if_ne (tgt := 40) hx hb dL_canReplace_33 (by decide) (fun hq8 => ?_) (fun hq8 => ?_)
            · have hm := (if_neg hq8).symm.trans hm
              refine lv_iconst (v := 0) hx hb dL_canReplace_40 (by decide) ?_
              refine lv_istore (lv' := [(5, .int 0), (0, .ref (A a0)), (1, .int x1), (2, .int x2), (3, .ref (A a3)), (4, .int x4), (6, .int v6)]) hx hb dL_canReplace_41 hl (by decide) rfl (fun ls hl => ?_)
              refine lv_iinc (v := (v6 + 1)) (lv' := [(6, .int (v6 + 1)), (5, .int 0), (0, .ref (A a0)), (1, .int x1), (2, .int x2), (3, .ref (A a3)), (4, .int x4)]) hx hb dL_canReplace_43 hl (k := 6) rfl rfl (by decide) rfl (fun ls hl => ?_)
              refine lv_goto (tgt := 6) hx hb dL_canReplace_46 (by decide) ?_
              exact ih 0 (v6 + 1) hm H locs hw ls (lv_sub hl [2, 3, 4, 5, 6, 1, 0] rfl)
            · have hm := (if_pos hq8).symm.trans hm
              refine lv_iconst (v := 1) hx hb dL_canReplace_36 (by decide) ?_
              refine lv_goto (tgt := 41) hx hb dL_canReplace_37 (by decide) ?_
              refine lv_istore (lv' := [(5, .int 1), (0, .ref (A a0)), (1, .int x1), (2, .int x2), (3, .ref (A a3)), (4, .int x4), (6, .int v6)]) hx hb dL_canReplace_41 hl (by decide) rfl (fun ls hl => ?_)
              refine lv_iinc (v := (v6 + 1)) (lv' := [(6, .int (v6 + 1)), (5, .int 1), (0, .ref (A a0)), (1, .int x1), (2, .int x2), (3, .ref (A a3)), (4, .int x4)]) hx hb dL_canReplace_43 hl (k := 6) rfl rfl (by decide) rfl (fun ls hl => ?_)
              refine lv_goto (tgt := 6) hx hb dL_canReplace_46 (by decide) ?_
              exact ih 1 (v6 + 1) hm H locs hw ls (lv_sub hl [2, 3, 4, 5, 6, 1, 0] rfl)
  unfold m_L_canReplace at hm
  revert hw
  suffices K : ∀ (H : Heap) (locs : List Loc), WD D cy (Fr A G s.heap.size) A s.heap G M H locs → W p l e (headSpec (wm yL_canReplace cL_canReplace 7 (some .boolean)) ({ frames := 4, cells := 0, slots := 0, locals := 111 } : Room)).room s m ([.ref (A a0), .int x1, .int x2, .ref (A a3), .int x4] : List Value).toArray below meth c H locs 0 0 (MQ below (va_Qi (fun (r' : Int32) (u : Mem) => r' = z ∧ u = M) (Po D cy A G (Fr A G s.heap.size)) (Fr A G s.heap.size)) ([.ref (A a0), .int x1, .int x2, .ref (A a3), .int x4] : List Value).toArray s 0 0 (Fr A G s.heap.size)) (F0 m 0 ls []) from fun hw => K _ _ hw
  intro H locs hw
  refine lv_iconst (v := 0) hx hb dL_canReplace_0 (by decide) ?_
  refine lv_istore (lv' := [(5, .int 0), (0, .ref (A a0)), (1, .int x1), (2, .int x2), (3, .ref (A a3)), (4, .int x4)]) hx hb dL_canReplace_1 hl (by decide) rfl (fun ls hl => ?_)
  refine lv_iconst (v := 0) hx hb dL_canReplace_3 (by decide) ?_
  refine lv_istore (lv' := [(6, .int 0), (5, .int 0), (0, .ref (A a0)), (1, .int x1), (2, .int x2), (3, .ref (A a3)), (4, .int x4)]) hx hb dL_canReplace_4 hl (by decide) rfl (fun ls hl => ?_)
  exact J6 fuel 0 0 hm H locs hw ls (lv_sub hl [2, 3, 4, 5, 6, 1, 0] rfl)
set_option maxHeartbeats 4000000 in
set_option maxRecDepth 100000 in
theorem c_L_tale (l : Launch) {D : va_G} {cy : Nat → ClassId} {A : Nat → Nat} {G : Nat → Bool} {M : Mem} {sz : Nat} {a0 : Nat} {x1 : Int32} {x2 : Int32} (h0 : TT G 4 a0)  {z : Int64} (hm : m_L_tale a0 x1 x2 M = some z) : Met l yL_tale (wm yL_tale cL_tale 7 (some .long)) ({ frames := 6, cells := 0, slots := 0, locals := 139 } : Room) (va_Pc [.ref (A a0), .int x1, .int x2] (Pr D cy A G M sz)) (va_Ql (fun (r' : Int64) (u : Mem) => r' = z ∧ u = M) (Po D cy A G (Fr A G sz)) (Fr A G sz))  0 0 (Fr A G sz) := by
  refine ofB (Qc := fun sz => va_Ql (fun (r' : Int64) (u : Mem) => r' = z ∧ u = M) (Po D cy A G (Fr A G sz)) (Fr A G sz)) (by decide +kernel) (Nat.le_of_ble_eq_true rfl) ?_
  intro p e s m below meth c hx hb hr hts hown hlocks hml hmn hK hw ls hl
  have hl : lv_has ls 7 [(0, .ref (A a0)), (1, .int x1), (2, .int x2)] := hl
  have J175 : ∀ (k54 : Int64 → Int32 → Option Int64) (jk54 : ∀ (v3 : Int64) (v5 : Int32), k54 v3 v5 = some z → ∀ (H : Heap) (locs : List Loc), WD D cy (Fr A G s.heap.size) A s.heap G M H locs → ∀ ls : Array Slot, lv_has ls 7 [(0, .ref (A a0)), (1, .int x1), (2, .int x2), (3, .long v3), (5, .int v5)] → W p l e (headSpec (wm yL_tale cL_tale 7 (some .long)) ({ frames := 6, cells := 0, slots := 0, locals := 139 } : Room)).room s m ([.ref (A a0), .int x1, .int x2] : List Value).toArray below meth c H locs 0 0 (MQ below (va_Ql (fun (r' : Int64) (u : Mem) => r' = z ∧ u = M) (Po D cy A G (Fr A G s.heap.size)) (Fr A G s.heap.size)) ([.ref (A a0), .int x1, .int x2] : List Value).toArray s 0 0 (Fr A G s.heap.size)) (F0 m 54 ls [])) (n : Nat) (v3 : Int64) (v5 : Int32) (v6 : Int32), m_L_tale_L175 a0 x1 x2 M k54 n v3 v5 v6 = some z → ∀ (H : Heap) (locs : List Loc), WD D cy (Fr A G s.heap.size) A s.heap G M H locs → ∀ ls : Array Slot, lv_has ls 7 [(0, .ref (A a0)), (1, .int x1), (2, .int x2), (3, .long v3), (5, .int v5), (6, .int v6)] → W p l e (headSpec (wm yL_tale cL_tale 7 (some .long)) ({ frames := 6, cells := 0, slots := 0, locals := 139 } : Room)).room s m ([.ref (A a0), .int x1, .int x2] : List Value).toArray below meth c H locs 0 0 (MQ below (va_Ql (fun (r' : Int64) (u : Mem) => r' = z ∧ u = M) (Po D cy A G (Fr A G s.heap.size)) (Fr A G s.heap.size)) ([.ref (A a0), .int x1, .int x2] : List Value).toArray s 0 0 (Fr A G s.heap.size)) (F0 m 175 ls []) := by
    intro k54 jk54 n
    induction n with
    | zero =>
      intro v3 v5 v6 hm
      cases (show (none : Option Int64) = some z from hm)
    | succ n ih =>
      intro v3 v5 v6 hm H locs hw ls hl
      have hm := (m_L_tale_L175_s a0 x1 x2 M k54 n v3 v5 v6).symm.trans hm
      refine lv_iload hx hb dL_tale_175 (lv_at hl 5 rfl) ?_
      refine lv_iload_n hx hb dL_tale_177 rfl (lv_at hl 1 rfl) ?_
      refine lv_icmp_ge (tgt := 211) hx hb dL_tale_178 (by decide) (fun hq16 => ?_) (fun hq16 => ?_)
      · have hm := (if_pos hq16).symm.trans hm
        refine lv_iinc (v := (v5 + 1)) (lv' := [(5, .int (v5 + 1)), (0, .ref (A a0)), (1, .int x1), (2, .int x2), (3, .long v3), (6, .int v6)]) hx hb dL_tale_211 hl (k := 4) rfl rfl (by decide) rfl (fun ls hl => ?_)
        refine lv_goto (tgt := 54) hx hb dL_tale_214 (by decide) ?_
        exact jk54 v3 (v5 + 1) hm H locs hw ls (lv_sub hl [1, 2, 3, 4, 0] rfl)
      · have hm := (if_neg hq16).symm.trans hm
        refine lv_lload_n hx hb dL_tale_181 rfl (lv_at hl 3 rfl) ?_
        refine lv_ldc2 hx hb hown (hts _ k_ct_RL_71) dL_tale_182 ?_
        refine lv_lmul hx hb dL_tale_185 ?_
        refine lv_aload_n hx hb dL_tale_186 rfl (lv_at hl 0 rfl) ?_
        refine lv_iload hx hb dL_tale_187 (lv_at hl 5 rfl) ?_
        refine lv_iload hx hb dL_tale_189 (lv_at hl 4 rfl) ?_
        obtain ⟨z17, e18, hm⟩ := bd_some hm
        refine ki hw Fr_hi (rV hx hb hml hts hown hK hw (c_X5_isFenced l h0 e18) h0 (by decide) rfl (mkV 2 hts k_ml_RL_73 k_im_yX5_isFenced k_se_yX5_isFenced k_in_RX5 k_co_yX5_isFenced hd_X5_isFenced ⟨Nat.le_of_ble_eq_true rfl, Nat.le_of_ble_eq_true rfl⟩) rfl hl.1 rfl (Nat.le_of_ble_eq_true rfl) dL_tale_191 ⟨Nat.le_of_ble_eq_true rfl, Nat.le_of_ble_eq_true rfl⟩) (fun H locs hw => ?_)
        refine lv_if_eq (tgt := 201) hx hb dL_tale_194 (by decide) (fun hq19 => ?_) (fun hq19 => ?_)
        · have hm := (if_pos hq19).symm.trans hm
          refine lv_iconst (v := 0) hx hb dL_tale_201 (by decide) ?_
          refine lv_i2l (v := (0 : Int32).toInt64) hx hb dL_tale_202 rfl ?_
          refine lv_ladd hx hb dL_tale_203 ?_
          refine lv_lstore_n (lv' := [(3, .long ((v3 * 2) + (0 : Int32).toInt64)), (0, .ref (A a0)), (1, .int x1), (2, .int x2), (5, .int v5), (6, .int v6)]) hx hb dL_tale_204 rfl hl (by decide) rfl (fun ls hl => ?_)
          refine lv_iinc (v := (v6 + 1)) (lv' := [(6, .int (v6 + 1)), (3, .long ((v3 * 2) + (0 : Int32).toInt64)), (0, .ref (A a0)), (1, .int x1), (2, .int x2), (5, .int v5)]) hx hb dL_tale_205 hl (k := 5) rfl rfl (by decide) rfl (fun ls hl => ?_)
          refine lv_goto (tgt := 175) hx hb dL_tale_208 (by decide) ?_
          exact ih ((v3 * 2) + (0 : Int32).toInt64) v5 (v6 + 1) hm H locs hw ls (lv_sub hl [2, 3, 4, 1, 5, 0] rfl)
        · have hm := (if_neg hq19).symm.trans hm
          refine lv_iconst (v := 1) hx hb dL_tale_197 (by decide) ?_
          refine lv_goto (tgt := 202) hx hb dL_tale_198 (by decide) ?_
          refine lv_i2l (v := (1 : Int32).toInt64) hx hb dL_tale_202 rfl ?_
          refine lv_ladd hx hb dL_tale_203 ?_
          refine lv_lstore_n (lv' := [(3, .long ((v3 * 2) + (1 : Int32).toInt64)), (0, .ref (A a0)), (1, .int x1), (2, .int x2), (5, .int v5), (6, .int v6)]) hx hb dL_tale_204 rfl hl (by decide) rfl (fun ls hl => ?_)
          refine lv_iinc (v := (v6 + 1)) (lv' := [(6, .int (v6 + 1)), (3, .long ((v3 * 2) + (1 : Int32).toInt64)), (0, .ref (A a0)), (1, .int x1), (2, .int x2), (5, .int v5)]) hx hb dL_tale_205 hl (k := 5) rfl rfl (by decide) rfl (fun ls hl => ?_)
          refine lv_goto (tgt := 175) hx hb dL_tale_208 (by decide) ?_
          exact ih ((v3 * 2) + (1 : Int32).toInt64) v5 (v6 + 1) hm H locs hw ls (lv_sub hl [2, 3, 4, 1, 5, 0] rfl)
  have J125 : ∀ (k54 : Int64 → Int32 → Option Int64) (jk54 : ∀ (v3 : Int64) (v5 : Int32), k54 v3 v5 = some z → ∀ (H : Heap) (locs : List Loc), WD D cy (Fr A G s.heap.size) A s.heap G M H locs → ∀ ls : Array Slot, lv_has ls 7 [(0, .ref (A a0)), (1, .int x1), (2, .int x2), (3, .long v3), (5, .int v5)] → W p l e (headSpec (wm yL_tale cL_tale 7 (some .long)) ({ frames := 6, cells := 0, slots := 0, locals := 139 } : Room)).room s m ([.ref (A a0), .int x1, .int x2] : List Value).toArray below meth c H locs 0 0 (MQ below (va_Ql (fun (r' : Int64) (u : Mem) => r' = z ∧ u = M) (Po D cy A G (Fr A G s.heap.size)) (Fr A G s.heap.size)) ([.ref (A a0), .int x1, .int x2] : List Value).toArray s 0 0 (Fr A G s.heap.size)) (F0 m 54 ls [])) (n : Nat) (v3 : Int64) (v5 : Int32) (v6 : Int32), m_L_tale_L125 a0 x1 x2 M k54 n v3 v5 v6 = some z → ∀ (H : Heap) (locs : List Loc), WD D cy (Fr A G s.heap.size) A s.heap G M H locs → ∀ ls : Array Slot, lv_has ls 7 [(0, .ref (A a0)), (1, .int x1), (2, .int x2), (3, .long v3), (5, .int v5), (6, .int v6)] → W p l e (headSpec (wm yL_tale cL_tale 7 (some .long)) ({ frames := 6, cells := 0, slots := 0, locals := 139 } : Room)).room s m ([.ref (A a0), .int x1, .int x2] : List Value).toArray below meth c H locs 0 0 (MQ below (va_Ql (fun (r' : Int64) (u : Mem) => r' = z ∧ u = M) (Po D cy A G (Fr A G s.heap.size)) (Fr A G s.heap.size)) ([.ref (A a0), .int x1, .int x2] : List Value).toArray s 0 0 (Fr A G s.heap.size)) (F0 m 125 ls []) := by
    intro k54 jk54 n
    induction n with
    | zero =>
      intro v3 v5 v6 hm
      cases (show (none : Option Int64) = some z from hm)
    | succ n ih =>
      intro v3 v5 v6 hm H locs hw ls hl
      have hm := (m_L_tale_L125_s a0 x1 x2 M k54 n v3 v5 v6).symm.trans hm
      refine lv_iload hx hb dL_tale_125 (lv_at hl 5 rfl) ?_
      refine lv_aload_n hx hb dL_tale_127 rfl (lv_at hl 0 rfl) ?_
      refine lv_iload hx hb dL_tale_128 (lv_at hl 4 rfl) ?_
      obtain ⟨z13, e14, hm⟩ := bd_some hm
      refine ki hw Fr_hi (rV hx hb hml hts hown hK hw (c_X5_appended l h0 e14) h0 (by decide) rfl (mkV 1 hts k_ml_RL_52 k_im_yX5_appended k_se_yX5_appended k_in_RX5 k_co_yX5_appended hd_X5_appended ⟨Nat.le_of_ble_eq_true rfl, Nat.le_of_ble_eq_true rfl⟩) rfl hl.1 rfl (Nat.le_of_ble_eq_true rfl) dL_tale_130 ⟨Nat.le_of_ble_eq_true rfl, Nat.le_of_ble_eq_true rfl⟩) (fun H locs hw => ?_)
      refine lv_icmp_ge (tgt := 172) hx hb dL_tale_133 (by decide) (fun hq15 => ?_) (fun hq15 => ?_)
      · have hm := (if_pos hq15).symm.trans hm
        refine lv_iconst (v := 0) hx hb dL_tale_172 (by decide) ?_
        refine lv_istore (lv' := [(6, .int 0), (0, .ref (A a0)), (1, .int x1), (2, .int x2), (3, .long v3), (5, .int v5)]) hx hb dL_tale_173 hl (by decide) rfl (fun ls hl => ?_)
        exact J175 k54 jk54 fuel v3 v5 0 hm H locs hw ls (lv_sub hl [1, 2, 3, 4, 5, 0] rfl)
      · have hm := (if_neg hq15).symm.trans hm
        refine lv_lload_n hx hb dL_tale_136 rfl (lv_at hl 3 rfl) ?_
        refine lv_ldc2 hx hb hown (hts _ k_ct_RL_62) dL_tale_137 ?_
        refine lv_lmul hx hb dL_tale_140 ?_
        refine lv_aload_n hx hb dL_tale_141 rfl (lv_at hl 0 rfl) ?_
        refine lv_iload hx hb dL_tale_142 (lv_at hl 4 rfl) ?_
        refine lv_iload hx hb dL_tale_144 (lv_at hl 5 rfl) ?_
        obtain ⟨z20, e21, hm⟩ := bd_some hm
        refine ki hw Fr_hi (rV hx hb hml hts hown hK hw (c_X5_holders l h0 e21) h0 (by decide) rfl (mkV 2 hts k_ml_RL_64 k_im_yX5_holders k_se_yX5_holders k_in_RX5 k_co_yX5_holders hd_X5_holders ⟨Nat.le_of_ble_eq_true rfl, Nat.le_of_ble_eq_true rfl⟩) rfl hl.1 rfl (Nat.le_of_ble_eq_true rfl) dL_tale_146 ⟨Nat.le_of_ble_eq_true rfl, Nat.le_of_ble_eq_true rfl⟩) (fun H locs hw => ?_)
        refine lv_i2l (v := z20.toInt64) hx hb dL_tale_149 rfl ?_
        refine lv_ldc2 hx hb hown (hts _ k_ct_RL_38) dL_tale_150 ?_
        refine lv_lmul hx hb dL_tale_153 ?_
        refine lv_ladd hx hb dL_tale_154 ?_
        refine lv_aload_n hx hb dL_tale_155 rfl (lv_at hl 0 rfl) ?_
        refine lv_iload hx hb dL_tale_156 (lv_at hl 4 rfl) ?_
        refine lv_iload hx hb dL_tale_158 (lv_at hl 5 rfl) ?_
        obtain ⟨z22, e23, hm⟩ := bd_some hm
        refine ki hw Fr_hi (rV hx hb hml hts hown hK hw (c_X5_acknowledgements l h0 e23) h0 (by decide) rfl (mkV 2 hts k_ml_RL_68 k_im_yX5_acknowledgements k_se_yX5_acknowledgements k_in_RX5 k_co_yX5_acknowledgements hd_X5_acknowledgements ⟨Nat.le_of_ble_eq_true rfl, Nat.le_of_ble_eq_true rfl⟩) rfl hl.1 rfl (Nat.le_of_ble_eq_true rfl) dL_tale_160 ⟨Nat.le_of_ble_eq_true rfl, Nat.le_of_ble_eq_true rfl⟩) (fun H locs hw => ?_)
        refine lv_i2l (v := z22.toInt64) hx hb dL_tale_163 rfl ?_
        refine lv_ladd hx hb dL_tale_164 ?_
        refine lv_lstore_n (lv' := [(3, .long (((v3 * 41) + (z20.toInt64 * 3)) + z22.toInt64)), (0, .ref (A a0)), (1, .int x1), (2, .int x2), (5, .int v5), (6, .int v6)]) hx hb dL_tale_165 rfl hl (by decide) rfl (fun ls hl => ?_)
        refine lv_iinc (v := (v6 + 1)) (lv' := [(6, .int (v6 + 1)), (3, .long (((v3 * 41) + (z20.toInt64 * 3)) + z22.toInt64)), (0, .ref (A a0)), (1, .int x1), (2, .int x2), (5, .int v5)]) hx hb dL_tale_166 hl (k := 5) rfl rfl (by decide) rfl (fun ls hl => ?_)
        refine lv_goto (tgt := 125) hx hb dL_tale_169 (by decide) ?_
        exact ih (((v3 * 41) + (z20.toInt64 * 3)) + z22.toInt64) v5 (v6 + 1) hm H locs hw ls (lv_sub hl [2, 3, 4, 1, 5, 0] rfl)
  have J54 : ∀  (n : Nat) (v3 : Int64) (v5 : Int32), m_L_tale_L54 a0 x1 x2 M n v3 v5 = some z → ∀ (H : Heap) (locs : List Loc), WD D cy (Fr A G s.heap.size) A s.heap G M H locs → ∀ ls : Array Slot, lv_has ls 7 [(0, .ref (A a0)), (1, .int x1), (2, .int x2), (3, .long v3), (5, .int v5)] → W p l e (headSpec (wm yL_tale cL_tale 7 (some .long)) ({ frames := 6, cells := 0, slots := 0, locals := 139 } : Room)).room s m ([.ref (A a0), .int x1, .int x2] : List Value).toArray below meth c H locs 0 0 (MQ below (va_Ql (fun (r' : Int64) (u : Mem) => r' = z ∧ u = M) (Po D cy A G (Fr A G s.heap.size)) (Fr A G s.heap.size)) ([.ref (A a0), .int x1, .int x2] : List Value).toArray s 0 0 (Fr A G s.heap.size)) (F0 m 54 ls []) := by
    intro n
    induction n with
    | zero =>
      intro v3 v5 hm
      cases (show (none : Option Int64) = some z from hm)
    | succ n ih =>
      intro v3 v5 hm H locs hw ls hl
      have hm := (m_L_tale_L54_s a0 x1 x2 M n v3 v5).symm.trans hm
      refine lv_iload hx hb dL_tale_54 (lv_at hl 4 rfl) ?_
      refine lv_iload_n hx hb dL_tale_56 rfl (lv_at hl 2 rfl) ?_
      refine lv_icmp_ge (tgt := 217) hx hb dL_tale_57 (by decide) (fun hq2 => ?_) (fun hq2 => ?_)
      · have hm := (if_pos hq2).symm.trans hm
        refine lv_lload_n hx hb dL_tale_217 rfl (lv_at hl 3 rfl) ?_
        cases hm
        exact eL hx hb hr hlocks hK hw dL_tale_218
      · have hm := (if_neg hq2).symm.trans hm
        refine lv_lload_n hx hb dL_tale_60 rfl (lv_at hl 3 rfl) ?_
        refine lv_ldc2 hx hb hown (hts _ k_ct_RL_40) dL_tale_61 ?_
        refine lv_lmul hx hb dL_tale_64 ?_
        refine lv_aload_n hx hb dL_tale_65 rfl (lv_at hl 0 rfl) ?_
        refine lv_iload hx hb dL_tale_66 (lv_at hl 4 rfl) ?_
        obtain ⟨z3, e4, hm⟩ := bd_some hm
        refine ki hw Fr_hi (rV hx hb hml hts hown hK hw (c_X5_state l h0 e4) h0 (by decide) rfl (mkV 1 hts k_ml_RL_42 k_im_yX5_state k_se_yX5_state k_in_RX5 k_co_yX5_state hd_X5_state ⟨Nat.le_of_ble_eq_true rfl, Nat.le_of_ble_eq_true rfl⟩) rfl hl.1 rfl (Nat.le_of_ble_eq_true rfl) dL_tale_68 ⟨Nat.le_of_ble_eq_true rfl, Nat.le_of_ble_eq_true rfl⟩) (fun H locs hw => ?_)
        refine lv_i2l (v := z3.toInt64) hx hb dL_tale_71 rfl ?_
        refine lv_ldc2 hx hb hown (hts _ k_ct_RL_45) dL_tale_72 ?_
        refine lv_lmul hx hb dL_tale_75 ?_
        refine lv_ladd hx hb dL_tale_76 ?_
        refine lv_aload_n hx hb dL_tale_77 rfl (lv_at hl 0 rfl) ?_
        refine lv_iload hx hb dL_tale_78 (lv_at hl 4 rfl) ?_
        obtain ⟨z5, e6, hm⟩ := bd_some hm
        refine ki hw Fr_hi (rV hx hb hml hts hown hK hw (c_X5_lastReadable l h0 e6) h0 (by decide) rfl (mkV 1 hts k_ml_RL_47 k_im_yX5_lastReadable k_se_yX5_lastReadable k_in_RX5 k_co_yX5_lastReadable hd_X5_lastReadable ⟨Nat.le_of_ble_eq_true rfl, Nat.le_of_ble_eq_true rfl⟩) rfl hl.1 rfl (Nat.le_of_ble_eq_true rfl) dL_tale_80 ⟨Nat.le_of_ble_eq_true rfl, Nat.le_of_ble_eq_true rfl⟩) (fun H locs hw => ?_)
        refine lv_i2l (v := z5.toInt64) hx hb dL_tale_83 rfl ?_
        refine lv_ldc2 hx hb hown (hts _ k_ct_RL_50) dL_tale_84 ?_
        refine lv_lmul hx hb dL_tale_87 ?_
        refine lv_ladd hx hb dL_tale_88 ?_
        refine lv_aload_n hx hb dL_tale_89 rfl (lv_at hl 0 rfl) ?_
        refine lv_iload hx hb dL_tale_90 (lv_at hl 4 rfl) ?_
        obtain ⟨z7, e8, hm⟩ := bd_some hm
        refine ki hw Fr_hi (rV hx hb hml hts hown hK hw (c_X5_appended l h0 e8) h0 (by decide) rfl (mkV 1 hts k_ml_RL_52 k_im_yX5_appended k_se_yX5_appended k_in_RX5 k_co_yX5_appended hd_X5_appended ⟨Nat.le_of_ble_eq_true rfl, Nat.le_of_ble_eq_true rfl⟩) rfl hl.1 rfl (Nat.le_of_ble_eq_true rfl) dL_tale_92 ⟨Nat.le_of_ble_eq_true rfl, Nat.le_of_ble_eq_true rfl⟩) (fun H locs hw => ?_)
        refine lv_i2l (v := z7.toInt64) hx hb dL_tale_95 rfl ?_
        refine lv_ldc2 hx hb hown (hts _ k_ct_RL_55) dL_tale_96 ?_
        refine lv_lmul hx hb dL_tale_99 ?_
        refine lv_ladd hx hb dL_tale_100 ?_
        refine lv_aload_n hx hb dL_tale_101 rfl (lv_at hl 0 rfl) ?_
        refine lv_iload hx hb dL_tale_102 (lv_at hl 4 rfl) ?_
        obtain ⟨z9, e10, hm⟩ := bd_some hm
        refine ki hw Fr_hi (rV hx hb hml hts hown hK hw (c_X5_underReplicated l h0 e10) h0 (by decide) rfl (mkV 1 hts k_ml_RL_57 k_im_yX5_underReplicated k_se_yX5_underReplicated k_in_RX5 k_co_yX5_underReplicated hd_X5_underReplicated ⟨Nat.le_of_ble_eq_true rfl, Nat.le_of_ble_eq_true rfl⟩) rfl hl.1 rfl (Nat.le_of_ble_eq_true rfl) dL_tale_104 ⟨Nat.le_of_ble_eq_true rfl, Nat.le_of_ble_eq_true rfl⟩) (fun H locs hw => ?_)
        refine lv_i2l (v := z9.toInt64) hx hb dL_tale_107 rfl ?_
        refine lv_ladd hx hb dL_tale_108 ?_
        refine lv_aload_n hx hb dL_tale_109 rfl (lv_at hl 0 rfl) ?_
        refine lv_iload hx hb dL_tale_110 (lv_at hl 4 rfl) ?_
        obtain ⟨z11, e12, hm⟩ := bd_some hm
        refine ki hw Fr_hi (rV hx hb hml hts hown hK hw (c_X5_fragmentCount l h0 e12) h0 (by decide) rfl (mkV 1 hts k_ml_RL_8 k_im_yX5_fragmentCount k_se_yX5_fragmentCount k_in_RX5 k_co_yX5_fragmentCount hd_X5_fragmentCount ⟨Nat.le_of_ble_eq_true rfl, Nat.le_of_ble_eq_true rfl⟩) rfl hl.1 rfl (Nat.le_of_ble_eq_true rfl) dL_tale_112 ⟨Nat.le_of_ble_eq_true rfl, Nat.le_of_ble_eq_true rfl⟩) (fun H locs hw => ?_)
        refine lv_i2l (v := z11.toInt64) hx hb dL_tale_115 rfl ?_
        refine lv_ldc2 hx hb hown (hts _ k_ct_RL_60) dL_tale_116 ?_
        refine lv_lmul hx hb dL_tale_119 ?_
        refine lv_ladd hx hb dL_tale_120 ?_
        refine lv_lstore_n (lv' := [(3, .long ((((((v3 * 37) + (z3.toInt64 * 5)) + (z5.toInt64 * 11)) + (z7.toInt64 * 13)) + z9.toInt64) + (z11.toInt64 * 17))), (0, .ref (A a0)), (1, .int x1), (2, .int x2), (5, .int v5)]) hx hb dL_tale_121 rfl hl (by decide) rfl (fun ls hl => ?_)
        refine lv_iconst (v := 0) hx hb dL_tale_122 (by decide) ?_
        refine lv_istore (lv' := [(6, .int 0), (3, .long ((((((v3 * 37) + (z3.toInt64 * 5)) + (z5.toInt64 * 11)) + (z7.toInt64 * 13)) + z9.toInt64) + (z11.toInt64 * 17))), (0, .ref (A a0)), (1, .int x1), (2, .int x2), (5, .int v5)]) hx hb dL_tale_123 hl (by decide) rfl (fun ls hl => ?_)
        exact J125 (fun w0 w1 => m_L_tale_L54 a0 x1 x2 M n w0 w1) (fun w0 w1 hh H locs hw ls hl => ih w0 w1 hh H locs hw ls hl) fuel ((((((v3 * 37) + (z3.toInt64 * 5)) + (z5.toInt64 * 11)) + (z7.toInt64 * 13)) + z9.toInt64) + (z11.toInt64 * 17)) v5 0 hm H locs hw ls (lv_sub hl [2, 3, 4, 1, 5, 0] rfl)
  have J9 : ∀  (n : Nat) (v3 : Int64) (v5 : Int32), m_L_tale_L9 a0 x1 x2 M n v3 v5 = some z → ∀ (H : Heap) (locs : List Loc), WD D cy (Fr A G s.heap.size) A s.heap G M H locs → ∀ ls : Array Slot, lv_has ls 7 [(0, .ref (A a0)), (1, .int x1), (2, .int x2), (3, .long v3), (5, .int v5)] → W p l e (headSpec (wm yL_tale cL_tale 7 (some .long)) ({ frames := 6, cells := 0, slots := 0, locals := 139 } : Room)).room s m ([.ref (A a0), .int x1, .int x2] : List Value).toArray below meth c H locs 0 0 (MQ below (va_Ql (fun (r' : Int64) (u : Mem) => r' = z ∧ u = M) (Po D cy A G (Fr A G s.heap.size)) (Fr A G s.heap.size)) ([.ref (A a0), .int x1, .int x2] : List Value).toArray s 0 0 (Fr A G s.heap.size)) (F0 m 9 ls []) := by
    intro n
    induction n with
    | zero =>
      intro v3 v5 hm
      cases (show (none : Option Int64) = some z from hm)
    | succ n ih =>
      intro v3 v5 hm H locs hw ls hl
      have hm := (m_L_tale_L9_s a0 x1 x2 M n v3 v5).symm.trans hm
      refine lv_iload hx hb dL_tale_9 (lv_at hl 4 rfl) ?_
      refine lv_iload_n hx hb dL_tale_11 rfl (lv_at hl 1 rfl) ?_
      refine lv_icmp_ge (tgt := 51) hx hb dL_tale_12 (by decide) (fun hq1 => ?_) (fun hq1 => ?_)
      · have hm := (if_pos hq1).symm.trans hm
        refine lv_iconst (v := 0) hx hb dL_tale_51 (by decide) ?_
        refine lv_istore (lv' := [(5, .int 0), (0, .ref (A a0)), (1, .int x1), (2, .int x2), (3, .long v3)]) hx hb dL_tale_52 hl (by decide) rfl (fun ls hl => ?_)
        exact J54 fuel v3 0 hm H locs hw ls (lv_sub hl [1, 2, 3, 4, 0] rfl)
      · have hm := (if_neg hq1).symm.trans hm
        refine lv_lload_n hx hb dL_tale_15 rfl (lv_at hl 3 rfl) ?_
        refine lv_ldc2 hx hb hown (hts _ k_ct_RL_28) dL_tale_16 ?_
        refine lv_lmul hx hb dL_tale_19 ?_
        refine lv_aload_n hx hb dL_tale_20 rfl (lv_at hl 0 rfl) ?_
        refine lv_iload hx hb dL_tale_21 (lv_at hl 4 rfl) ?_
        obtain ⟨z24, e25, hm⟩ := bd_some hm
        refine ki hw Fr_hi (rV hx hb hml hts hown hK hw (c_X5_weight l h0 e25) h0 (by decide) rfl (mkV 1 hts k_ml_RL_30 k_im_yX5_weight k_se_yX5_weight k_in_RX5 k_co_yX5_weight hd_X5_weight ⟨Nat.le_of_ble_eq_true rfl, Nat.le_of_ble_eq_true rfl⟩) rfl hl.1 rfl (Nat.le_of_ble_eq_true rfl) dL_tale_23 ⟨Nat.le_of_ble_eq_true rfl, Nat.le_of_ble_eq_true rfl⟩) (fun H locs hw => ?_)
        refine lv_i2l (v := z24.toInt64) hx hb dL_tale_26 rfl ?_
        refine lv_ldc2 hx hb hown (hts _ k_ct_RL_33) dL_tale_27 ?_
        refine lv_lmul hx hb dL_tale_30 ?_
        refine lv_ladd hx hb dL_tale_31 ?_
        refine lv_aload_n hx hb dL_tale_32 rfl (lv_at hl 0 rfl) ?_
        refine lv_iload hx hb dL_tale_33 (lv_at hl 4 rfl) ?_
        obtain ⟨z26, e27, hm⟩ := bd_some hm
        refine ki hw Fr_hi (rV hx hb hml hts hown hK hw (c_X5_inboxLength l h0 e27) h0 (by decide) rfl (mkV 1 hts k_ml_RL_35 k_im_yX5_inboxLength k_se_yX5_inboxLength k_in_RX5 k_co_yX5_inboxLength hd_X5_inboxLength ⟨Nat.le_of_ble_eq_true rfl, Nat.le_of_ble_eq_true rfl⟩) rfl hl.1 rfl (Nat.le_of_ble_eq_true rfl) dL_tale_35 ⟨Nat.le_of_ble_eq_true rfl, Nat.le_of_ble_eq_true rfl⟩) (fun H locs hw => ?_)
        refine lv_i2l (v := z26.toInt64) hx hb dL_tale_38 rfl ?_
        refine lv_ldc2 hx hb hown (hts _ k_ct_RL_38) dL_tale_39 ?_
        refine lv_lmul hx hb dL_tale_42 ?_
        refine lv_ladd hx hb dL_tale_43 ?_
        refine lv_lstore_n (lv' := [(3, .long (((v3 * 31) + (z24.toInt64 * 7)) + (z26.toInt64 * 3))), (0, .ref (A a0)), (1, .int x1), (2, .int x2), (5, .int v5)]) hx hb dL_tale_44 rfl hl (by decide) rfl (fun ls hl => ?_)
        refine lv_iinc (v := (v5 + 1)) (lv' := [(5, .int (v5 + 1)), (3, .long (((v3 * 31) + (z24.toInt64 * 7)) + (z26.toInt64 * 3))), (0, .ref (A a0)), (1, .int x1), (2, .int x2)]) hx hb dL_tale_45 hl (k := 4) rfl rfl (by decide) rfl (fun ls hl => ?_)
        refine lv_goto (tgt := 9) hx hb dL_tale_48 (by decide) ?_
        exact ih (((v3 * 31) + (z24.toInt64 * 7)) + (z26.toInt64 * 3)) (v5 + 1) hm H locs hw ls (lv_sub hl [2, 3, 4, 1, 0] rfl)
  unfold m_L_tale at hm
  revert hw
  suffices K : ∀ (H : Heap) (locs : List Loc), WD D cy (Fr A G s.heap.size) A s.heap G M H locs → W p l e (headSpec (wm yL_tale cL_tale 7 (some .long)) ({ frames := 6, cells := 0, slots := 0, locals := 139 } : Room)).room s m ([.ref (A a0), .int x1, .int x2] : List Value).toArray below meth c H locs 0 0 (MQ below (va_Ql (fun (r' : Int64) (u : Mem) => r' = z ∧ u = M) (Po D cy A G (Fr A G s.heap.size)) (Fr A G s.heap.size)) ([.ref (A a0), .int x1, .int x2] : List Value).toArray s 0 0 (Fr A G s.heap.size)) (F0 m 0 ls []) from fun hw => K _ _ hw
  intro H locs hw
  refine lv_aload_n hx hb dL_tale_0 rfl (lv_at hl 0 rfl) ?_
  refine ki hw Fr_hi (rV hx hb hml hts hown hK hw (c_X5_rejections l h0) h0 (by decide) rfl (mkV 0 hts k_ml_RL_24 k_im_yX5_rejections k_se_yX5_rejections k_in_RX5 k_co_yX5_rejections hd_X5_rejections ⟨Nat.le_of_ble_eq_true rfl, Nat.le_of_ble_eq_true rfl⟩) rfl hl.1 rfl (Nat.le_of_ble_eq_true rfl) dL_tale_1 ⟨Nat.le_of_ble_eq_true rfl, Nat.le_of_ble_eq_true rfl⟩) (fun H locs hw => ?_)
  refine lv_i2l (v := (m_X5_rejections a0 M).toInt64) hx hb dL_tale_4 rfl ?_
  refine lv_lstore_n (lv' := [(3, .long (m_X5_rejections a0 M).toInt64), (0, .ref (A a0)), (1, .int x1), (2, .int x2)]) hx hb dL_tale_5 rfl hl (by decide) rfl (fun ls hl => ?_)
  refine lv_iconst (v := 0) hx hb dL_tale_6 (by decide) ?_
  refine lv_istore (lv' := [(5, .int 0), (3, .long (m_X5_rejections a0 M).toInt64), (0, .ref (A a0)), (1, .int x1), (2, .int x2)]) hx hb dL_tale_7 hl (by decide) rfl (fun ls hl => ?_)
  exact J9 fuel ((m_X5_rejections a0 M).toInt64) 0 hm H locs hw ls (lv_sub hl [2, 3, 4, 1, 0] rfl)
