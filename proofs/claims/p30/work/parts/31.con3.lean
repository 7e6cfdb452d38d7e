set_option maxHeartbeats 4000000 in
set_option maxRecDepth 100000 in
theorem c_X3_node (l : Launch) {D : va_G} {cy : Nat → ClassId} {A : Nat → Nat} {G : Nat → Bool} {M : Mem} {sz : Nat} {a0 : Nat} {x1 : Int32} (h0 : TT G 2 a0)  {z : (Option Nat)} (hm : m_X3_node a0 x1 M = some z) : Met l yX3_node (wm yX3_node cX3_node 2 (some (.object "LedgerStore$Node"))) ({ frames := 0, cells := 0, slots := 0, locals := 0 } : Room) (va_Pc [.ref (A a0), .int x1] (Pr D cy A G M sz)) (va_Qq (fun (r' : Option Nat) (u : Mem) => r' = Option.map A (z) ∧ u = M) (Po D cy A G (Fr A G sz)) (Fr A G sz))  0 0 (Fr A G sz) := by
  refine ofB (Qc := fun sz => va_Qq (fun (r' : Option Nat) (u : Mem) => r' = Option.map A (z) ∧ u = M) (Po D cy A G (Fr A G sz)) (Fr A G sz)) (by decide +kernel) (Nat.le_of_ble_eq_true rfl) ?_
  intro p e s m below meth c hx hb hr hts hown hlocks hml hmn hK hw ls hl
  have hl : lv_has ls 2 [(0, .ref (A a0)), (1, .int x1)] := hl
  unfold m_X3_node at hm
  revert hw
  suffices K : ∀ (H : Heap) (locs : List Loc), WD D cy (Fr A G s.heap.size) A s.heap G M H locs → W p l e (headSpec (wm yX3_node cX3_node 2 (some (.object "LedgerStore$Node"))) ({ frames := 0, cells := 0, slots := 0, locals := 0 } : Room)).room s m ([.ref (A a0), .int x1] : List Value).toArray below meth c H locs 0 0 (MQ below (va_Qq (fun (r' : Option Nat) (u : Mem) => r' = Option.map A (z) ∧ u = M) (Po D cy A G (Fr A G s.heap.size)) (Fr A G s.heap.size)) ([.ref (A a0), .int x1] : List Value).toArray s 0 0 (Fr A G s.heap.size)) (F0 m 0 ls []) from fun hw => K _ _ hw
  intro H locs hw
  refine lv_iload_n hx hb dX3_node_0 rfl (lv_at hl 1 rfl) ?_
  refine lv_if_lt (tgt := 21) hx hb dX3_node_1 (by decide) (fun hq1 => ?_) (fun hq1 => ?_)
  · have hm := (if_pos hq1).symm.trans hm
    refine lv_null hx hb dX3_node_21 ?_
    refine lv_goto (tgt := 31) hx hb dX3_node_22 (by decide) ?_
    cases hm
    exact eN hx hb hr hlocks hK hw dX3_node_31
  · have hm := (if_neg hq1).symm.trans hm
    refine lv_iload_n hx hb dX3_node_4 rfl (lv_at hl 1 rfl) ?_
    refine lv_aload_n hx hb dX3_node_5 rfl (lv_at hl 0 rfl) ?_
    refine g2 hx hb hts hown hK hw h0 0 (by decide) (.int (gF M a0 0)) rfl k_fl_RX3_27 (fun _ h => h) dX3_node_6 ?_
    refine lv_icmp_ge (tgt := 21) hx hb dX3_node_9 (by decide) (fun hq2 => ?_) (fun hq2 => ?_)
    · have hm := (if_pos hq2).symm.trans hm
      refine lv_null hx hb dX3_node_21 ?_
      refine lv_goto (tgt := 31) hx hb dX3_node_22 (by decide) ?_
      cases hm
      exact eN hx hb hr hlocks hK hw dX3_node_31
    · have hm := (if_neg hq2).symm.trans hm
      refine lv_iload_n hx hb dX3_node_12 rfl (lv_at hl 1 rfl) ?_
      refine lv_aload_n hx hb dX3_node_13 rfl (lv_at hl 0 rfl) ?_
      refine g2 hx hb hts hown hK hw h0 3 (by decide) (.ref (A (a0 + 1))) rfl k_fl_RX3_11 (fun _ h => h) dX3_node_14 ?_
      have hp3 := st_n h0
      refine l8 hx hb hK hw hp3 dX3_node_17 ?_
      refine lv_icmp_lt (tgt := 25) hx hb dX3_node_18 (by decide) (fun hq4 => ?_) (fun hq4 => ?_)
      · have hm := (if_pos hq4).symm.trans hm
        refine lv_aload_n hx hb dX3_node_25 rfl (lv_at hl 0 rfl) ?_
        refine g2 hx hb hts hown hK hw h0 3 (by decide) (.ref (A (a0 + 1))) rfl k_fl_RX3_11 (fun _ h => h) dX3_node_26 ?_
        have hp5 := st_n h0
        refine lv_iload_n hx hb dX3_node_29 rfl (lv_at hl 1 rfl) ?_
        obtain ⟨hi6, hm⟩ := ck_some hm
        refine g8 hx hb hK hw hp5 hi6 dX3_node_30 ?_
        have hp7 := ns_at hp5 hi6
        cases hm
        exact eQ hx hb hr hlocks hK hw dX3_node_31
      · have hm := (if_neg hq4).symm.trans hm
        refine lv_null hx hb dX3_node_21 ?_
        refine lv_goto (tgt := 31) hx hb dX3_node_22 (by decide) ?_
        cases hm
        exact eN hx hb hr hlocks hK hw dX3_node_31
set_option maxHeartbeats 4000000 in
set_option maxRecDepth 100000 in
theorem c_X3_ledger (l : Launch) {D : va_G} {cy : Nat → ClassId} {A : Nat → Nat} {G : Nat → Bool} {M : Mem} {sz : Nat} {a0 : Nat} {x1 : Int32} (h0 : TT G 2 a0)  {z : (Option Nat)} (hm : m_X3_ledger a0 x1 M = some z) : Met l yX3_ledger (wm yX3_ledger cX3_ledger 2 (some (.object "LedgerStore$Ledger"))) ({ frames := 0, cells := 0, slots := 0, locals := 0 } : Room) (va_Pc [.ref (A a0), .int x1] (Pr D cy A G M sz)) (va_Qq (fun (r' : Option Nat) (u : Mem) => r' = Option.map A (z) ∧ u = M) (Po D cy A G (Fr A G sz)) (Fr A G sz))  0 0 (Fr A G sz) := by
  refine ofB (Qc := fun sz => va_Qq (fun (r' : Option Nat) (u : Mem) => r' = Option.map A (z) ∧ u = M) (Po D cy A G (Fr A G sz)) (Fr A G sz)) (by decide +kernel) (Nat.le_of_ble_eq_true rfl) ?_
  intro p e s m below meth c hx hb hr hts hown hlocks hml hmn hK hw ls hl
  have hl : lv_has ls 2 [(0, .ref (A a0)), (1, .int x1)] := hl
  unfold m_X3_ledger at hm
  revert hw
  suffices K : ∀ (H : Heap) (locs : List Loc), WD D cy (Fr A G s.heap.size) A s.heap G M H locs → W p l e (headSpec (wm yX3_ledger cX3_ledger 2 (some (.object "LedgerStore$Ledger"))) ({ frames := 0, cells := 0, slots := 0, locals := 0 } : Room)).room s m ([.ref (A a0), .int x1] : List Value).toArray below meth c H locs 0 0 (MQ below (va_Qq (fun (r' : Option Nat) (u : Mem) => r' = Option.map A (z) ∧ u = M) (Po D cy A G (Fr A G s.heap.size)) (Fr A G s.heap.size)) ([.ref (A a0), .int x1] : List Value).toArray s 0 0 (Fr A G s.heap.size)) (F0 m 0 ls []) from fun hw => K _ _ hw
  intro H locs hw
  refine lv_iload_n hx hb dX3_ledger_0 rfl (lv_at hl 1 rfl) ?_
  refine lv_if_lt (tgt := 21) hx hb dX3_ledger_1 (by decide) (fun hq1 => ?_) (fun hq1 => ?_)
  · have hm := (if_pos hq1).symm.trans hm
    refine lv_null hx hb dX3_ledger_21 ?_
    refine lv_goto (tgt := 31) hx hb dX3_ledger_22 (by decide) ?_
    cases hm
    exact eN hx hb hr hlocks hK hw dX3_ledger_31
  · have hm := (if_neg hq1).symm.trans hm
    refine lv_iload_n hx hb dX3_ledger_4 rfl (lv_at hl 1 rfl) ?_
    refine lv_aload_n hx hb dX3_ledger_5 rfl (lv_at hl 0 rfl) ?_
    refine g2 hx hb hts hown hK hw h0 1 (by decide) (.int (gF M a0 1)) rfl k_fl_RX3_31 (fun _ h => h) dX3_ledger_6 ?_
    refine lv_icmp_ge (tgt := 21) hx hb dX3_ledger_9 (by decide) (fun hq2 => ?_) (fun hq2 => ?_)
    · have hm := (if_pos hq2).symm.trans hm
      refine lv_null hx hb dX3_ledger_21 ?_
      refine lv_goto (tgt := 31) hx hb dX3_ledger_22 (by decide) ?_
      cases hm
      exact eN hx hb hr hlocks hK hw dX3_ledger_31
    · have hm := (if_neg hq2).symm.trans hm
      refine lv_iload_n hx hb dX3_ledger_12 rfl (lv_at hl 1 rfl) ?_
      refine lv_aload_n hx hb dX3_ledger_13 rfl (lv_at hl 0 rfl) ?_
      refine g2 hx hb hts hown hK hw h0 4 (by decide) (.ref (A (a0 + 2))) rfl k_fl_RX3_19 (fun _ h => h) dX3_ledger_14 ?_
      have hp3 := st_l h0
      refine l7 hx hb hK hw hp3 dX3_ledger_17 ?_
      refine lv_icmp_lt (tgt := 25) hx hb dX3_ledger_18 (by decide) (fun hq4 => ?_) (fun hq4 => ?_)
      · have hm := (if_pos hq4).symm.trans hm
        refine lv_aload_n hx hb dX3_ledger_25 rfl (lv_at hl 0 rfl) ?_
        refine g2 hx hb hts hown hK hw h0 4 (by decide) (.ref (A (a0 + 2))) rfl k_fl_RX3_19 (fun _ h => h) dX3_ledger_26 ?_
        have hp5 := st_l h0
        refine lv_iload_n hx hb dX3_ledger_29 rfl (lv_at hl 1 rfl) ?_
        obtain ⟨hi6, hm⟩ := ck_some hm
        refine g7 hx hb hK hw hp5 hi6 dX3_ledger_30 ?_
        have hp7 := ls_at hp5 hi6
        cases hm
        exact eQ hx hb hr hlocks hK hw dX3_ledger_31
      · have hm := (if_neg hq4).symm.trans hm
        refine lv_null hx hb dX3_ledger_21 ?_
        refine lv_goto (tgt := 31) hx hb dX3_ledger_22 (by decide) ?_
        cases hm
        exact eN hx hb hr hlocks hK hw dX3_ledger_31
set_option maxHeartbeats 4000000 in
set_option maxRecDepth 100000 in
theorem c_X3_takeOver (l : Launch) {D : va_G} {cy : Nat → ClassId} {A : Nat → Nat} {G : Nat → Bool} {M : Mem} {sz : Nat} {a0 : Nat} {a1 : Nat} (h0 : TT G 2 a0) (h1 : TT G 2 a1)  {z : Mem} (hm : m_X3_takeOver a0 a1 M = some z) : Met l yX3_takeOver (wm yX3_takeOver cX3_takeOver 5 none) ({ frames := 3, cells := 0, slots := 0, locals := 82 } : Room) (va_Pc [.ref (A a0), .ref (A a1)] (Pr D cy A G M sz)) (va_Qv (fun (u : Mem) => u = z) (Po D cy A G (Fr A G sz)) (Fr A G sz))  0 0 (Fr A G sz) := by
  refine ofB (Qc := fun sz => va_Qv (fun (u : Mem) => u = z) (Po D cy A G (Fr A G sz)) (Fr A G sz)) (by decide +kernel) (Nat.le_of_ble_eq_true rfl) ?_
  intro p e s m below meth c hx hb hr hts hown hlocks hml hmn hK hw ls hl
  have hl : lv_has ls 5 [(0, .ref (A a0)), (1, .ref (A a1))] := hl
  have J70 : ∀  (n : Nat) (v2 : Int32) (M : Mem), m_X3_takeOver_L70 a0 a1 n v2 M = some z → ∀ (H : Heap) (locs : List Loc), WD D cy (Fr A G s.heap.size) A s.heap G M H locs → ∀ ls : Array Slot, lv_has ls 5 [(0, .ref (A a0)), (1, .ref (A a1)), (2, .int v2)] → W p l e (headSpec (wm yX3_takeOver cX3_takeOver 5 none) ({ frames := 3, cells := 0, slots := 0, locals := 82 } : Room)).room s m ([.ref (A a0), .ref (A a1)] : List Value).toArray below meth c H locs 0 0 (MQ below (va_Qv (fun (u : Mem) => u = z) (Po D cy A G (Fr A G s.heap.size)) (Fr A G s.heap.size)) ([.ref (A a0), .ref (A a1)] : List Value).toArray s 0 0 (Fr A G s.heap.size)) (F0 m 70 ls []) := by
    intro n
    induction n with
    | zero =>
      intro v2 M hm
      cases (show (none : Option Mem) = some z from hm)
    | succ n ih =>
      intro v2 M hm H locs hw ls hl
      have hm := (m_X3_takeOver_L70_s a0 a1 n v2 M).symm.trans hm
      refine lv_iload_n hx hb dX3_takeOver_70 rfl (lv_at hl 2 rfl) ?_
      refine lv_aload_n hx hb dX3_takeOver_71 rfl (lv_at hl 0 rfl) ?_
      refine g2 hx hb hts hown hK hw h0 1 (by decide) (.int (gF M a0 1)) rfl k_fl_RX3_31 (fun _ h => h) dX3_takeOver_72 ?_
      refine lv_icmp_ge (tgt := 112) hx hb dX3_takeOver_75 (by decide) (fun hq2 => ?_) (fun hq2 => ?_)
      · have hm := (if_pos hq2).symm.trans hm
        cases hm
        exact eV hx hb hr hlocks hK hw dX3_takeOver_112
      · have hm := (if_neg hq2).symm.trans hm
        refine lv_aload_n hx hb dX3_takeOver_78 rfl (lv_at hl 1 rfl) ?_
        refine lv_iload_n hx hb dX3_takeOver_79 rfl (lv_at hl 2 rfl) ?_
        obtain ⟨z3, e4, hm⟩ := bd_some hm
        refine kq hw Fr_hi (rV hx hb hml hts hown hK hw (c_X3_ledger l h1 e4) h1 (by decide) rfl (mkV 1 hts k_ml_RX3_45 k_im_yX3_ledger k_se_yX3_ledger k_in_RX3 k_co_yX3_ledger hd_X3_ledger ⟨Nat.le_of_ble_eq_true rfl, Nat.le_of_ble_eq_true rfl⟩) rfl hl.1 rfl (Nat.le_of_ble_eq_true rfl) dX3_takeOver_80 ⟨Nat.le_of_ble_eq_true rfl, Nat.le_of_ble_eq_true rfl⟩) (fun hr5 H locs hw => ?_) (fun q6 hr5 H locs hw => ?_)
        · have hm := (on_none hr5).symm.trans hm
          refine lv_astore_nN (lv' := [(3, .null), (0, .ref (A a0)), (1, .ref (A a1)), (2, .int v2)]) hx hb dX3_takeOver_83 rfl hl (by decide) rfl (fun ls hl => ?_)
          refine lv_aload_n hx hb dX3_takeOver_84 rfl (lv_at hl 1 rfl) ?_
          refine lv_iload_n hx hb dX3_takeOver_85 rfl (lv_at hl 3 rfl) ?_
          obtain ⟨z8, e9, hm⟩ := bd_some hm
          refine kq hw Fr_hi (rV hx hb hml hts hown hK hw (c_X3_ledger l h0 e9) h0 (by decide) rfl (mkV 1 hts k_ml_RX3_45 k_im_yX3_ledger k_se_yX3_ledger k_in_RX3 k_co_yX3_ledger hd_X3_ledger ⟨Nat.le_of_ble_eq_true rfl, Nat.le_of_ble_eq_true rfl⟩) rfl hl.1 rfl (Nat.le_of_ble_eq_true rfl) dX3_takeOver_86 ⟨Nat.le_of_ble_eq_true rfl, Nat.le_of_ble_eq_true rfl⟩) (fun hr10 H locs hw => ?_) (fun q11 hr10 H locs hw => ?_)
          · have hm := (on_none hr10).symm.trans hm
            refine lv_astoreN (lv' := [(4, .null), (3, .null), (0, .ref (A a0)), (1, .ref (A a1)), (2, .int v2)]) hx hb dX3_takeOver_89 hl (by decide) rfl (fun ls hl => ?_)
            refine lv_aload_nN hx hb dX3_takeOver_91 rfl (lv_at hl 1 rfl) ?_
            refine lv_ifnullN (tgt := 106) hx hb dX3_takeOver_92 (by decide) ?_
            refine lv_iinc (v := (v2 + 1)) (lv' := [(2, .int (v2 + 1)), (4, .null), (3, .null), (0, .ref (A a0)), (1, .ref (A a1))]) hx hb dX3_takeOver_106 hl (k := 4) rfl rfl (by decide) rfl (fun ls hl => ?_)
            refine lv_goto (tgt := 70) hx hb dX3_takeOver_109 (by decide) ?_
            exact ih (v2 + 1) M hm H locs hw ls (lv_sub hl [3, 4, 0] rfl)
          · have hm := (on_some hr10).symm.trans hm
            have hp12 := t_X3_ledger h0 (hr10 ▸ e9)
            refine lv_astore (lv' := [(4, .ref (A q11)), (3, .null), (0, .ref (A a0)), (1, .ref (A a1)), (2, .int v2)]) hx hb dX3_takeOver_89 hl (by decide) rfl (fun ls hl => ?_)
            refine lv_aload_nN hx hb dX3_takeOver_91 rfl (lv_at hl 1 rfl) ?_
            refine lv_ifnullN (tgt := 106) hx hb dX3_takeOver_92 (by decide) ?_
            refine lv_iinc (v := (v2 + 1)) (lv' := [(2, .int (v2 + 1)), (4, .ref (A q11)), (3, .null), (0, .ref (A a0)), (1, .ref (A a1))]) hx hb dX3_takeOver_106 hl (k := 4) rfl rfl (by decide) rfl (fun ls hl => ?_)
            refine lv_goto (tgt := 70) hx hb dX3_takeOver_109 (by decide) ?_
            exact ih (v2 + 1) M hm H locs hw ls (lv_sub hl [3, 4, 0] rfl)
        · have hm := (on_some hr5).symm.trans hm
          have hp7 := t_X3_ledger h1 (hr5 ▸ e4)
          refine lv_astore_n (lv' := [(3, .ref (A q6)), (0, .ref (A a0)), (1, .ref (A a1)), (2, .int v2)]) hx hb dX3_takeOver_83 rfl hl (by decide) rfl (fun ls hl => ?_)
          refine lv_aload_n hx hb dX3_takeOver_84 rfl (lv_at hl 1 rfl) ?_
          refine lv_iload_n hx hb dX3_takeOver_85 rfl (lv_at hl 3 rfl) ?_
          obtain ⟨z13, e14, hm⟩ := bd_some hm
          refine kq hw Fr_hi (rV hx hb hml hts hown hK hw (c_X3_ledger l h0 e14) h0 (by decide) rfl (mkV 1 hts k_ml_RX3_45 k_im_yX3_ledger k_se_yX3_ledger k_in_RX3 k_co_yX3_ledger hd_X3_ledger ⟨Nat.le_of_ble_eq_true rfl, Nat.le_of_ble_eq_true rfl⟩) rfl hl.1 rfl (Nat.le_of_ble_eq_true rfl) dX3_takeOver_86 ⟨Nat.le_of_ble_eq_true rfl, Nat.le_of_ble_eq_true rfl⟩) (fun hr15 H locs hw => ?_) (fun q16 hr15 H locs hw => ?_)
          · have hm := (on_none hr15).symm.trans hm
            refine lv_astoreN (lv' := [(4, .null), (3, .ref (A q6)), (0, .ref (A a0)), (1, .ref (A a1)), (2, .int v2)]) hx hb dX3_takeOver_89 hl (by decide) rfl (fun ls hl => ?_)
            refine lv_aload_n hx hb dX3_takeOver_91 rfl (lv_at hl 1 rfl) ?_
            refine lv_ifnull hx hb dX3_takeOver_92 ?_
            refine lv_aloadN hx hb dX3_takeOver_95 (lv_at hl 0 rfl) ?_
            refine lv_ifnullN (tgt := 106) hx hb dX3_takeOver_97 (by decide) ?_
            refine lv_iinc (v := (v2 + 1)) (lv' := [(2, .int (v2 + 1)), (4, .null), (3, .ref (A q6)), (0, .ref (A a0)), (1, .ref (A a1))]) hx hb dX3_takeOver_106 hl (k := 4) rfl rfl (by decide) rfl (fun ls hl => ?_)
            refine lv_goto (tgt := 70) hx hb dX3_takeOver_109 (by decide) ?_
            exact ih (v2 + 1) M hm H locs hw ls (lv_sub hl [3, 4, 0] rfl)
          · have hm := (on_some hr15).symm.trans hm
            have hp17 := t_X3_ledger h0 (hr15 ▸ e14)
            refine lv_astore (lv' := [(4, .ref (A q16)), (3, .ref (A q6)), (0, .ref (A a0)), (1, .ref (A a1)), (2, .int v2)]) hx hb dX3_takeOver_89 hl (by decide) rfl (fun ls hl => ?_)
            refine lv_aload_n hx hb dX3_takeOver_91 rfl (lv_at hl 1 rfl) ?_
            refine lv_ifnull hx hb dX3_takeOver_92 ?_
            refine lv_aload hx hb dX3_takeOver_95 (lv_at hl 0 rfl) ?_
            refine lv_ifnull hx hb dX3_takeOver_97 ?_
            refine lv_aload hx hb dX3_takeOver_100 (lv_at hl 0 rfl) ?_
            refine lv_aload_n hx hb dX3_takeOver_102 rfl (lv_at hl 1 rfl) ?_
            obtain ⟨z18, e19, hm⟩ := bd_some hm
            refine kv hw Fr_hi (rV hx hb hml hts hown hK hw (c_X0_copyFrom l hp17 hp7 e19) hp17 (by decide) rfl (mkV 1 hts k_ml_RX3_49 k_im_yX0_copyFrom k_se_yX0_copyFrom k_in_RX0 k_co_yX0_copyFrom hd_X0_copyFrom ⟨Nat.le_of_ble_eq_true rfl, Nat.le_of_ble_eq_true rfl⟩) rfl hl.1 rfl (Nat.le_of_ble_eq_true rfl) dX3_takeOver_103 ⟨Nat.le_of_ble_eq_true rfl, Nat.le_of_ble_eq_true rfl⟩) (fun H locs hw => ?_)
            refine lv_iinc (v := (v2 + 1)) (lv' := [(2, .int (v2 + 1)), (4, .ref (A q16)), (3, .ref (A q6)), (0, .ref (A a0)), (1, .ref (A a1))]) hx hb dX3_takeOver_106 hl (k := 4) rfl rfl (by decide) rfl (fun ls hl => ?_)
            refine lv_goto (tgt := 70) hx hb dX3_takeOver_109 (by decide) ?_
            exact ih (v2 + 1) z18 hm H locs hw ls (lv_sub hl [3, 4, 0] rfl)
  have J26 : ∀  (n : Nat) (v2 : Int32) (M : Mem), m_X3_takeOver_L26 a0 a1 n v2 M = some z → ∀ (H : Heap) (locs : List Loc), WD D cy (Fr A G s.heap.size) A s.heap G M H locs → ∀ ls : Array Slot, lv_has ls 5 [(0, .ref (A a0)), (1, .ref (A a1)), (2, .int v2)] → W p l e (headSpec (wm yX3_takeOver cX3_takeOver 5 none) ({ frames := 3, cells := 0, slots := 0, locals := 82 } : Room)).room s m ([.ref (A a0), .ref (A a1)] : List Value).toArray below meth c H locs 0 0 (MQ below (va_Qv (fun (u : Mem) => u = z) (Po D cy A G (Fr A G s.heap.size)) (Fr A G s.heap.size)) ([.ref (A a0), .ref (A a1)] : List Value).toArray s 0 0 (Fr A G s.heap.size)) (F0 m 26 ls []) := by
    intro n
    induction n with
    | zero =>
      intro v2 M hm
      cases (show (none : Option Mem) = some z from hm)
    | succ n ih =>
      intro v2 M hm H locs hw ls hl
      have hm := (m_X3_takeOver_L26_s a0 a1 n v2 M).symm.trans hm
      refine lv_iload_n hx hb dX3_takeOver_26 rfl (lv_at hl 2 rfl) ?_
      refine lv_aload_n hx hb dX3_takeOver_27 rfl (lv_at hl 0 rfl) ?_
      refine g2 hx hb hts hown hK hw h0 0 (by decide) (.int (gF M a0 0)) rfl k_fl_RX3_27 (fun _ h => h) dX3_takeOver_28 ?_
      refine lv_icmp_ge (tgt := 68) hx hb dX3_takeOver_31 (by decide) (fun hq1 => ?_) (fun hq1 => ?_)
      · have hm := (if_pos hq1).symm.trans hm
        refine lv_iconst (v := 0) hx hb dX3_takeOver_68 (by decide) ?_
        refine lv_istore_n (lv' := [(2, .int 0), (0, .ref (A a0)), (1, .ref (A a1))]) hx hb dX3_takeOver_69 rfl hl (by decide) rfl (fun ls hl => ?_)
        exact J70 fuel 0 M hm H locs hw ls (lv_sub hl [1, 2, 0] rfl)
      · have hm := (if_neg hq1).symm.trans hm
        refine lv_aload_n hx hb dX3_takeOver_34 rfl (lv_at hl 1 rfl) ?_
        refine lv_iload_n hx hb dX3_takeOver_35 rfl (lv_at hl 2 rfl) ?_
        obtain ⟨z20, e21, hm⟩ := bd_some hm
        refine kq hw Fr_hi (rV hx hb hml hts hown hK hw (c_X3_node l h1 e21) h1 (by decide) rfl (mkV 1 hts k_ml_RX3_37 k_im_yX3_node k_se_yX3_node k_in_RX3 k_co_yX3_node hd_X3_node ⟨Nat.le_of_ble_eq_true rfl, Nat.le_of_ble_eq_true rfl⟩) rfl hl.1 rfl (Nat.le_of_ble_eq_true rfl) dX3_takeOver_36 ⟨Nat.le_of_ble_eq_true rfl, Nat.le_of_ble_eq_true rfl⟩) (fun hr22 H locs hw => ?_) (fun q23 hr22 H locs hw => ?_)
        · have hm := (on_none hr22).symm.trans hm
          refine lv_astore_nN (lv' := [(3, .null), (0, .ref (A a0)), (1, .ref (A a1)), (2, .int v2)]) hx hb dX3_takeOver_39 rfl hl (by decide) rfl (fun ls hl => ?_)
          refine lv_aload_n hx hb dX3_takeOver_40 rfl (lv_at hl 1 rfl) ?_
          refine lv_iload_n hx hb dX3_takeOver_41 rfl (lv_at hl 3 rfl) ?_
          obtain ⟨z25, e26, hm⟩ := bd_some hm
          refine kq hw Fr_hi (rV hx hb hml hts hown hK hw (c_X3_node l h0 e26) h0 (by decide) rfl (mkV 1 hts k_ml_RX3_37 k_im_yX3_node k_se_yX3_node k_in_RX3 k_co_yX3_node hd_X3_node ⟨Nat.le_of_ble_eq_true rfl, Nat.le_of_ble_eq_true rfl⟩) rfl hl.1 rfl (Nat.le_of_ble_eq_true rfl) dX3_takeOver_42 ⟨Nat.le_of_ble_eq_true rfl, Nat.le_of_ble_eq_true rfl⟩) (fun hr27 H locs hw => ?_) (fun q28 hr27 H locs hw => ?_)
          · have hm := (on_none hr27).symm.trans hm
            refine lv_astoreN (lv' := [(4, .null), (3, .null), (0, .ref (A a0)), (1, .ref (A a1)), (2, .int v2)]) hx hb dX3_takeOver_45 hl (by decide) rfl (fun ls hl => ?_)
            refine lv_aload_nN hx hb dX3_takeOver_47 rfl (lv_at hl 1 rfl) ?_
            refine lv_ifnullN (tgt := 62) hx hb dX3_takeOver_48 (by decide) ?_
            refine lv_iinc (v := (v2 + 1)) (lv' := [(2, .int (v2 + 1)), (4, .null), (3, .null), (0, .ref (A a0)), (1, .ref (A a1))]) hx hb dX3_takeOver_62 hl (k := 4) rfl rfl (by decide) rfl (fun ls hl => ?_)
            refine lv_goto (tgt := 26) hx hb dX3_takeOver_65 (by decide) ?_
            exact ih (v2 + 1) M hm H locs hw ls (lv_sub hl [3, 4, 0] rfl)
          · have hm := (on_some hr27).symm.trans hm
            have hp29 := t_X3_node h0 (hr27 ▸ e26)
            refine lv_astore (lv' := [(4, .ref (A q28)), (3, .null), (0, .ref (A a0)), (1, .ref (A a1)), (2, .int v2)]) hx hb dX3_takeOver_45 hl (by decide) rfl (fun ls hl => ?_)
            refine lv_aload_nN hx hb dX3_takeOver_47 rfl (lv_at hl 1 rfl) ?_
            refine lv_ifnullN (tgt := 62) hx hb dX3_takeOver_48 (by decide) ?_
            refine lv_iinc (v := (v2 + 1)) (lv' := [(2, .int (v2 + 1)), (4, .ref (A q28)), (3, .null), (0, .ref (A a0)), (1, .ref (A a1))]) hx hb dX3_takeOver_62 hl (k := 4) rfl rfl (by decide) rfl (fun ls hl => ?_)
            refine lv_goto (tgt := 26) hx hb dX3_takeOver_65 (by decide) ?_
            exact ih (v2 + 1) M hm H locs hw ls (lv_sub hl [3, 4, 0] rfl)
        · have hm := (on_some hr22).symm.trans hm
          have hp24 := t_X3_node h1 (hr22 ▸ e21)
          refine lv_astore_n (lv' := [(3, .ref (A q23)), (0, .ref (A a0)), (1, .ref (A a1)), (2, .int v2)]) hx hb dX3_takeOver_39 rfl hl (by decide) rfl (fun ls hl => ?_)
          refine lv_aload_n hx hb dX3_takeOver_40 rfl (lv_at hl 1 rfl) ?_
          refine lv_iload_n hx hb dX3_takeOver_41 rfl (lv_at hl 3 rfl) ?_
          obtain ⟨z30, e31, hm⟩ := bd_some hm
          refine kq hw Fr_hi (rV hx hb hml hts hown hK hw (c_X3_node l h0 e31) h0 (by decide) rfl (mkV 1 hts k_ml_RX3_37 k_im_yX3_node k_se_yX3_node k_in_RX3 k_co_yX3_node hd_X3_node ⟨Nat.le_of_ble_eq_true rfl, Nat.le_of_ble_eq_true rfl⟩) rfl hl.1 rfl (Nat.le_of_ble_eq_true rfl) dX3_takeOver_42 ⟨Nat.le_of_ble_eq_true rfl, Nat.le_of_ble_eq_true rfl⟩) (fun hr32 H locs hw => ?_) (fun q33 hr32 H locs hw => ?_)
          · have hm := (on_none hr32).symm.trans hm
            refine lv_astoreN (lv' := [(4, .null), (3, .ref (A q23)), (0, .ref (A a0)), (1, .ref (A a1)), (2, .int v2)]) hx hb dX3_takeOver_45 hl (by decide) rfl (fun ls hl => ?_)
            refine lv_aload_n hx hb dX3_takeOver_47 rfl (lv_at hl 1 rfl) ?_
            refine lv_ifnull hx hb dX3_takeOver_48 ?_
            refine lv_aloadN hx hb dX3_takeOver_51 (lv_at hl 0 rfl) ?_
            refine lv_ifnullN (tgt := 62) hx hb dX3_takeOver_53 (by decide) ?_
            refine lv_iinc (v := (v2 + 1)) (lv' := [(2, .int (v2 + 1)), (4, .null), (3, .ref (A q23)), (0, .ref (A a0)), (1, .ref (A a1))]) hx hb dX3_takeOver_62 hl (k := 4) rfl rfl (by decide) rfl (fun ls hl => ?_)
            refine lv_goto (tgt := 26) hx hb dX3_takeOver_65 (by decide) ?_
            exact ih (v2 + 1) M hm H locs hw ls (lv_sub hl [3, 4, 0] rfl)
          · have hm := (on_some hr32).symm.trans hm
            have hp34 := t_X3_node h0 (hr32 ▸ e31)
            refine lv_astore (lv' := [(4, .ref (A q33)), (3, .ref (A q23)), (0, .ref (A a0)), (1, .ref (A a1)), (2, .int v2)]) hx hb dX3_takeOver_45 hl (by decide) rfl (fun ls hl => ?_)
            refine lv_aload_n hx hb dX3_takeOver_47 rfl (lv_at hl 1 rfl) ?_
            refine lv_ifnull hx hb dX3_takeOver_48 ?_
            refine lv_aload hx hb dX3_takeOver_51 (lv_at hl 0 rfl) ?_
            refine lv_ifnull hx hb dX3_takeOver_53 ?_
            refine lv_aload hx hb dX3_takeOver_56 (lv_at hl 0 rfl) ?_
            refine lv_aload_n hx hb dX3_takeOver_58 rfl (lv_at hl 1 rfl) ?_
            obtain ⟨z35, e36, hm⟩ := bd_some hm
            refine kv hw Fr_hi (rV hx hb hml hts hown hK hw (c_X1_copyFrom l hp34 hp24 e36) hp34 (by decide) rfl (mkV 1 hts k_ml_RX3_41 k_im_yX1_copyFrom k_se_yX1_copyFrom k_in_RX1 k_co_yX1_copyFrom hd_X1_copyFrom ⟨Nat.le_of_ble_eq_true rfl, Nat.le_of_ble_eq_true rfl⟩) rfl hl.1 rfl (Nat.le_of_ble_eq_true rfl) dX3_takeOver_59 ⟨Nat.le_of_ble_eq_true rfl, Nat.le_of_ble_eq_true rfl⟩) (fun H locs hw => ?_)
            refine lv_iinc (v := (v2 + 1)) (lv' := [(2, .int (v2 + 1)), (4, .ref (A q33)), (3, .ref (A q23)), (0, .ref (A a0)), (1, .ref (A a1))]) hx hb dX3_takeOver_62 hl (k := 4) rfl rfl (by decide) rfl (fun ls hl => ?_)
            refine lv_goto (tgt := 26) hx hb dX3_takeOver_65 (by decide) ?_
            exact ih (v2 + 1) z35 hm H locs hw ls (lv_sub hl [3, 4, 0] rfl)
  unfold m_X3_takeOver at hm
  revert hw
  suffices K : ∀ (H : Heap) (locs : List Loc), WD D cy (Fr A G s.heap.size) A s.heap G M H locs → W p l e (headSpec (wm yX3_takeOver cX3_takeOver 5 none) ({ frames := 3, cells := 0, slots := 0, locals := 82 } : Room)).room s m ([.ref (A a0), .ref (A a1)] : List Value).toArray below meth c H locs 0 0 (MQ below (va_Qv (fun (u : Mem) => u = z) (Po D cy A G (Fr A G s.heap.size)) (Fr A G s.heap.size)) ([.ref (A a0), .ref (A a1)] : List Value).toArray s 0 0 (Fr A G s.heap.size)) (F0 m 0 ls []) from fun hw => K _ _ hw
  intro H locs hw
  refine lv_aload_n hx hb dX3_takeOver_0 rfl (lv_at hl 0 rfl) ?_
  refine lv_aload_n hx hb dX3_takeOver_1 rfl (lv_at hl 1 rfl) ?_
  refine g2 hx hb hts hown hK hw h1 0 (by decide) (.int (gF M a1 0)) rfl k_fl_RX3_27 (fun _ h => h) dX3_takeOver_2 ?_
  refine p2 hx hb hts hown hK hw h0 0 (by decide) k_fl_RX3_27 (fun _ h => h) rfl rfl rfl dX3_takeOver_5 (fun H locs hw => ?_)
  refine lv_aload_n hx hb dX3_takeOver_8 rfl (lv_at hl 0 rfl) ?_
  refine lv_aload_n hx hb dX3_takeOver_9 rfl (lv_at hl 1 rfl) ?_
  refine g2 hx hb hts hown hK hw h1 1 (by decide) (.int (gF (sF a0 0 (gF M a1 0) M) a1 1)) rfl k_fl_RX3_31 (fun _ h => h) dX3_takeOver_10 ?_
  refine p2 hx hb hts hown hK hw h0 1 (by decide) k_fl_RX3_31 (fun _ h => h) rfl rfl rfl dX3_takeOver_13 (fun H locs hw => ?_)
  refine lv_aload_n hx hb dX3_takeOver_16 rfl (lv_at hl 0 rfl) ?_
  refine lv_aload_n hx hb dX3_takeOver_17 rfl (lv_at hl 1 rfl) ?_
  refine g2 hx hb hts hown hK hw h1 2 (by decide) (.int (gF (sF a0 1 (gF (sF a0 0 (gF M a1 0) M) a1 1) (sF a0 0 (gF M a1 0) M)) a1 2)) rfl k_fl_RX3_34 (fun _ h => h) dX3_takeOver_18 ?_
  refine p2 hx hb hts hown hK hw h0 2 (by decide) k_fl_RX3_34 (fun _ h => h) rfl rfl rfl dX3_takeOver_21 (fun H locs hw => ?_)
  refine lv_iconst (v := 0) hx hb dX3_takeOver_24 (by decide) ?_
  refine lv_istore_n (lv' := [(2, .int 0), (0, .ref (A a0)), (1, .ref (A a1))]) hx hb dX3_takeOver_25 rfl hl (by decide) rfl (fun ls hl => ?_)
  exact J26 fuel 0 (sF a0 2 (gF (sF a0 1 (gF (sF a0 0 (gF M a1 0) M) a1 1) (sF a0 0 (gF M a1 0) M)) a1 2) (sF a0 1 (gF (sF a0 0 (gF M a1 0) M) a1 1) (sF a0 0 (gF M a1 0) M))) hm H locs hw ls (lv_sub hl [1, 2, 0] rfl)
set_option maxHeartbeats 4000000 in
set_option maxRecDepth 100000 in
theorem c_X3_beginNode (l : Launch) {D : va_G} {cy : Nat → ClassId} {A : Nat → Nat} {G : Nat → Bool} {M : Mem} {sz : Nat} {a0 : Nat} (h0 : TT G 2 a0)  {z : (Int32 × Mem)} (hm : m_X3_beginNode a0 M = some z) : Met l yX3_beginNode (wm yX3_beginNode cX3_beginNode 3 (some .int)) ({ frames := 2, cells := 0, slots := 0, locals := 43 } : Room) (va_Pc [.ref (A a0)] (Pr D cy A G M sz)) (va_Qi (fun (r' : Int32) (u : Mem) => r' = z.1 ∧ u = z.2) (Po D cy A G (Fr A G sz)) (Fr A G sz))  0 0 (Fr A G sz) := by
  refine ofB (Qc := fun sz => va_Qi (fun (r' : Int32) (u : Mem) => r' = z.1 ∧ u = z.2) (Po D cy A G (Fr A G sz)) (Fr A G sz)) (by decide +kernel) (Nat.le_of_ble_eq_true rfl) ?_
  intro p e s m below meth c hx hb hr hts hown hlocks hml hmn hK hw ls hl
  have hl : lv_has ls 3 [(0, .ref (A a0))] := hl
  unfold m_X3_beginNode at hm
  revert hw
  suffices K : ∀ (H : Heap) (locs : List Loc), WD D cy (Fr A G s.heap.size) A s.heap G M H locs → W p l e (headSpec (wm yX3_beginNode cX3_beginNode 3 (some .int)) ({ frames := 2, cells := 0, slots := 0, locals := 43 } : Room)).room s m ([.ref (A a0)] : List Value).toArray below meth c H locs 0 0 (MQ below (va_Qi (fun (r' : Int32) (u : Mem) => r' = z.1 ∧ u = z.2) (Po D cy A G (Fr A G s.heap.size)) (Fr A G s.heap.size)) ([.ref (A a0)] : List Value).toArray s 0 0 (Fr A G s.heap.size)) (F0 m 0 ls []) from fun hw => K _ _ hw
  intro H locs hw
  refine lv_aload_n hx hb dX3_beginNode_0 rfl (lv_at hl 0 rfl) ?_
  refine g2 hx hb hts hown hK hw h0 0 (by decide) (.int (gF M a0 0)) rfl k_fl_RX3_27 (fun _ h => h) dX3_beginNode_1 ?_
  refine lv_istore_n (lv' := [(1, .int (gF M a0 0)), (0, .ref (A a0))]) hx hb dX3_beginNode_4 rfl hl (by decide) rfl (fun ls hl => ?_)
  refine lv_aload_n hx hb dX3_beginNode_5 rfl (lv_at hl 1 rfl) ?_
  refine lv_dup hx hb dX3_beginNode_6 rfl ?_
  refine g2 hx hb hts hown hK hw h0 0 (by decide) (.int (gF M a0 0)) rfl k_fl_RX3_27 (fun _ h => h) dX3_beginNode_7 ?_
  refine lv_iconst (v := 1) hx hb dX3_beginNode_10 (by decide) ?_
  refine lv_iadd hx hb dX3_beginNode_11 ?_
  refine p2 hx hb hts hown hK hw h0 0 (by decide) k_fl_RX3_27 (fun _ h => h) rfl rfl rfl dX3_beginNode_12 (fun H locs hw => ?_)
  refine lv_aload_n hx hb dX3_beginNode_15 rfl (lv_at hl 1 rfl) ?_
  refine lv_iload_n hx hb dX3_beginNode_16 rfl (lv_at hl 0 rfl) ?_
  obtain ⟨z1, e2, hm⟩ := bd_some hm
  refine kq hw Fr_hi (rV hx hb hml hts hown hK hw (c_X3_node l h0 e2) h0 (by decide) rfl (mkV 1 hts k_ml_RX3_37 k_im_yX3_node k_se_yX3_node k_in_RX3 k_co_yX3_node hd_X3_node ⟨Nat.le_of_ble_eq_true rfl, Nat.le_of_ble_eq_true rfl⟩) rfl hl.1 rfl (Nat.le_of_ble_eq_true rfl) dX3_beginNode_17 ⟨Nat.le_of_ble_eq_true rfl, Nat.le_of_ble_eq_true rfl⟩) (fun hr3 H locs hw => ?_) (fun q4 hr3 H locs hw => ?_)
  · have hm := (on_none hr3).symm.trans hm
    refine lv_astore_nN (lv' := [(2, .null), (1, .int (gF M a0 0)), (0, .ref (A a0))]) hx hb dX3_beginNode_20 rfl hl (by decide) rfl (fun ls hl => ?_)
    refine lv_aload_nN hx hb dX3_beginNode_21 rfl (lv_at hl 0 rfl) ?_
    refine lv_ifnullN (tgt := 29) hx hb dX3_beginNode_22 (by decide) ?_
    refine lv_iload_n hx hb dX3_beginNode_29 rfl (lv_at hl 1 rfl) ?_
    cases hm
    exact eI hx hb hr hlocks hK hw dX3_beginNode_30
  · have hm := (on_some hr3).symm.trans hm
    have hp5 := t_X3_node h0 (hr3 ▸ e2)
    refine lv_astore_n (lv' := [(2, .ref (A q4)), (1, .int (gF M a0 0)), (0, .ref (A a0))]) hx hb dX3_beginNode_20 rfl hl (by decide) rfl (fun ls hl => ?_)
    refine lv_aload_n hx hb dX3_beginNode_21 rfl (lv_at hl 0 rfl) ?_
    refine lv_ifnull hx hb dX3_beginNode_22 ?_
    refine lv_aload_n hx hb dX3_beginNode_25 rfl (lv_at hl 0 rfl) ?_
    obtain ⟨z6, e7, hm⟩ := bd_some hm
    refine kv hw Fr_hi (rV hx hb hml hts hown hK hw (c_X1_begin l hp5 e7) hp5 (by decide) rfl (mkV 0 hts k_ml_RX3_52 k_im_yX1_begin k_se_yX1_begin k_in_RX1 k_co_yX1_begin hd_X1_begin ⟨Nat.le_of_ble_eq_true rfl, Nat.le_of_ble_eq_true rfl⟩) rfl hl.1 rfl (Nat.le_of_ble_eq_true rfl) dX3_beginNode_26 ⟨Nat.le_of_ble_eq_true rfl, Nat.le_of_ble_eq_true rfl⟩) (fun H locs hw => ?_)
    refine lv_iload_n hx hb dX3_beginNode_29 rfl (lv_at hl 1 rfl) ?_
    cases hm
    exact eI hx hb hr hlocks hK hw dX3_beginNode_30
set_option maxHeartbeats 4000000 in
set_option maxRecDepth 100000 in
theorem c_X3_choose (l : Launch) {D : va_G} {cy : Nat → ClassId} {A : Nat → Nat} {G : Nat → Bool} {M : Mem} {sz : Nat} {a0 : Nat} {x1 : Int32} (h0 : TT G 2 a0)  {z : Int32} (hm : m_X3_choose a0 x1 M = some z) : Met l yX3_choose (wm yX3_choose cX3_choose 6 (some .int)) ({ frames := 1, cells := 0, slots := 0, locals := 21 } : Room) (va_Pc [.ref (A a0), .int x1] (Pr D cy A G M sz)) (va_Qi (fun (r' : Int32) (u : Mem) => r' = z ∧ u = M) (Po D cy A G (Fr A G sz)) (Fr A G sz))  0 0 (Fr A G sz) := by
  refine ofB (Qc := fun sz => va_Qi (fun (r' : Int32) (u : Mem) => r' = z ∧ u = M) (Po D cy A G (Fr A G sz)) (Fr A G sz)) (by decide +kernel) (Nat.le_of_ble_eq_true rfl) ?_
  intro p e s m below meth c hx hb hr hts hown hlocks hml hmn hK hw ls hl
  have hl : lv_has ls 6 [(0, .ref (A a0)), (1, .int x1)] := hl
  have J7 : ∀  (n : Nat) (v2 : Int32) (v3 : Int32) (v4 : Int32), m_X3_choose_L7 a0 x1 M n v2 v3 v4 = some z → ∀ (H : Heap) (locs : List Loc), WD D cy (Fr A G s.heap.size) A s.heap G M H locs → ∀ ls : Array Slot, lv_has ls 6 [(0, .ref (A a0)), (1, .int x1), (2, .int v2), (3, .int v3), (4, .int v4)] → W p l e (headSpec (wm yX3_choose cX3_choose 6 (some .int)) ({ frames := 1, cells := 0, slots := 0, locals := 21 } : Room)).room s m ([.ref (A a0), .int x1] : List Value).toArray below meth c H locs 0 0 (MQ below (va_Qi (fun (r' : Int32) (u : Mem) => r' = z ∧ u = M) (Po D cy A G (Fr A G s.heap.size)) (Fr A G s.heap.size)) ([.ref (A a0), .int x1] : List Value).toArray s 0 0 (Fr A G s.heap.size)) (F0 m 7 ls []) := by
    intro n
    induction n with
    | zero =>
      intro v2 v3 v4 hm
      cases (show (none : Option Int32) = some z from hm)
    | succ n ih =>
      intro v2 v3 v4 hm H locs hw ls hl
      have hm := (m_X3_choose_L7_s a0 x1 M n v2 v3 v4).symm.trans hm
      refine lv_iload hx hb dX3_choose_7 (lv_at hl 4 rfl) ?_
      refine lv_aload_n hx hb dX3_choose_9 rfl (lv_at hl 0 rfl) ?_
      refine g2 hx hb hts hown hK hw h0 0 (by decide) (.int (gF M a0 0)) rfl k_fl_RX3_27 (fun _ h => h) dX3_choose_10 ?_
      refine lv_icmp_ge (tgt := 78) hx hb dX3_choose_13 (by decide) (fun hq1 => ?_) (fun hq1 => ?_)
      · have hm := (if_pos hq1).symm.trans hm
        refine lv_iload_n hx hb dX3_choose_78 rfl (lv_at hl 2 rfl) ?_
        cases hm
        exact eI hx hb hr hlocks hK hw dX3_choose_79
      · have hm := (if_neg hq1).symm.trans hm
        refine lv_aload_n hx hb dX3_choose_16 rfl (lv_at hl 0 rfl) ?_
        refine lv_iload hx hb dX3_choose_17 (lv_at hl 4 rfl) ?_
        obtain ⟨z2, e3, hm⟩ := bd_some hm
        refine kq hw Fr_hi (rV hx hb hml hts hown hK hw (c_X3_node l h0 e3) h0 (by decide) rfl (mkV 1 hts k_ml_RX3_37 k_im_yX3_node k_se_yX3_node k_in_RX3 k_co_yX3_node hd_X3_node ⟨Nat.le_of_ble_eq_true rfl, Nat.le_of_ble_eq_true rfl⟩) rfl hl.1 rfl (Nat.le_of_ble_eq_true rfl) dX3_choose_19 ⟨Nat.le_of_ble_eq_true rfl, Nat.le_of_ble_eq_true rfl⟩) (fun hr4 H locs hw => ?_) (fun q5 hr4 H locs hw => ?_)
        · have hm := (on_none hr4).symm.trans hm
          refine lv_astoreN (lv' := [(5, .null), (0, .ref (A a0)), (1, .int x1), (2, .int v2), (3, .int v3), (4, .int v4)]) hx hb dX3_choose_22 hl (by decide) rfl (fun ls hl => ?_)
          refine lv_aloadN hx hb dX3_choose_24 (lv_at hl 0 rfl) ?_
          refine lv_ifnullN (tgt := 72) hx hb dX3_choose_26 (by decide) ?_
          refine lv_iinc (v := (v4 + 1)) (lv' := [(4, .int (v4 + 1)), (5, .null), (0, .ref (A a0)), (1, .int x1), (2, .int v2), (3, .int v3)]) hx hb dX3_choose_72 hl (k := 5) rfl rfl (by decide) rfl (fun ls hl => ?_)
          refine lv_goto (tgt := 7) hx hb dX3_choose_75 (by decide) ?_
          exact ih v2 v3 (v4 + 1) hm H locs hw ls (lv_sub hl [2, 3, 4, 5, 0] rfl)
        · have hm := (on_some hr4).symm.trans hm
          have hp6 := t_X3_node h0 (hr4 ▸ e3)
          refine lv_astore (lv' := [(5, .ref (A q5)), (0, .ref (A a0)), (1, .int x1), (2, .int v2), (3, .int v3), (4, .int v4)]) hx hb dX3_choose_22 hl (by decide) rfl (fun ls hl => ?_)
          refine lv_aload hx hb dX3_choose_24 (lv_at hl 0 rfl) ?_
          refine lv_ifnull hx hb dX3_choose_26 ?_
          refine lv_aload hx hb dX3_choose_29 (lv_at hl 0 rfl) ?_
          refine g1 hx hb hts hown hK hw hp6 0 (by decide) (.int (gF M q5 0)) rfl k_fl_RX3_68 (fun _ h => h) dX3_choose_31 ?_
          refine lv_if_eq (tgt := 72) hx hb dX3_choose_34 (by decide) (fun hq7 => ?_) (fun hq7 => ?_)
          · have hm := (if_pos hq7).symm.trans hm
            refine lv_iinc (v := (v4 + 1)) (lv' := [(4, .int (v4 + 1)), (5, .ref (A q5)), (0, .ref (A a0)), (1, .int x1), (2, .int v2), (3, .int v3)]) hx hb dX3_choose_72 hl (k := 5) rfl rfl (by decide) rfl (fun ls hl => ?_)
            refine lv_goto (tgt := 7) hx hb dX3_choose_75 (by decide) ?_
            exact ih v2 v3 (v4 + 1) hm H locs hw ls (lv_sub hl [2, 3, 4, 5, 0] rfl)
          · have hm := (if_neg hq7).symm.trans hm
            refine lv_iload_n hx hb dX3_choose_37 rfl (lv_at hl 2 rfl) ?_
            refine lv_iload hx hb dX3_choose_38 (lv_at hl 5 rfl) ?_
            refine ki hw Fr_hi (rSN hx hb hml hts hown hK hw (c_X5_contains l x1 v4) (mkSN 2 hts hK.2.2.2.2.2.2.2.1 k_st_yX5_contains k_in_RX5 k_co_yX5_contains hd_X5_contains ⟨Nat.le_of_ble_eq_true rfl, Nat.le_of_ble_eq_true rfl⟩) rfl hl.1 rfl (Nat.le_of_ble_eq_true rfl) dX3_choose_40 ⟨Nat.le_of_ble_eq_true rfl, Nat.le_of_ble_eq_true rfl⟩) (fun H locs hw => ?_)
            refine lv_if_eq (tgt := 49) hx hb dX3_choose_43 (by decide) (fun hq8 => ?_) (fun hq8 => ?_)
            · have hm := (if_pos hq8).symm.trans hm
              refine lv_iload_n hx hb dX3_choose_49 rfl (lv_at hl 3 rfl) ?_
              refine lv_iconst (v := (-1)) hx hb dX3_choose_50 (by decide) ?_
              refine lv_icmp_eq (tgt := 63) hx hb dX3_choose_51 (by decide) (fun hq9 => ?_) (fun hq9 => ?_)
              · have hm := (if_pos hq9).symm.trans hm
                refine lv_iload hx hb dX3_choose_63 (lv_at hl 5 rfl) ?_
                refine lv_istore_n (lv' := [(2, .int v4), (5, .ref (A q5)), (0, .ref (A a0)), (1, .int x1), (3, .int v3), (4, .int v4)]) hx hb dX3_choose_65 rfl hl (by decide) rfl (fun ls hl => ?_)
                refine lv_aload hx hb dX3_choose_66 (lv_at hl 1 rfl) ?_
                refine g1 hx hb hts hown hK hw hp6 2 (by decide) (.int (gF M q5 2)) rfl k_fl_RX3_76 (fun _ h => h) dX3_choose_68 ?_
                refine lv_istore_n (lv' := [(3, .int (gF M q5 2)), (2, .int v4), (5, .ref (A q5)), (0, .ref (A a0)), (1, .int x1), (4, .int v4)]) hx hb dX3_choose_71 rfl hl (by decide) rfl (fun ls hl => ?_)
                refine lv_iinc (v := (v4 + 1)) (lv' := [(4, .int (v4 + 1)), (3, .int (gF M q5 2)), (2, .int v4), (5, .ref (A q5)), (0, .ref (A a0)), (1, .int x1)]) hx hb dX3_choose_72 hl (k := 5) rfl rfl (by decide) rfl (fun ls hl => ?_)
                refine lv_goto (tgt := 7) hx hb dX3_choose_75 (by decide) ?_
                exact ih v4 (gF M q5 2) (v4 + 1) hm H locs hw ls (lv_sub hl [4, 5, 2, 1, 0] rfl)
              · have hm := (if_neg hq9).symm.trans hm
                refine lv_aload hx hb dX3_choose_54 (lv_at hl 0 rfl) ?_
                refine g1 hx hb hts hown hK hw hp6 2 (by decide) (.int (gF M q5 2)) rfl k_fl_RX3_76 (fun _ h => h) dX3_choose_56 ?_
                refine lv_iload_n hx hb dX3_choose_59 rfl (lv_at hl 4 rfl) ?_
                refine lv_icmp_ge (tgt := 72) hx hb dX3_choose_60 (by decide) (fun hq10 => ?_) (fun hq10 => ?_)
                · have hm := (if_pos hq10).symm.trans hm
                  refine lv_iinc (v := (v4 + 1)) (lv' := [(4, .int (v4 + 1)), (5, .ref (A q5)), (0, .ref (A a0)), (1, .int x1), (2, .int v2), (3, .int v3)]) hx hb dX3_choose_72 hl (k := 5) rfl rfl (by decide) rfl (fun ls hl => ?_)
                  refine lv_goto (tgt := 7) hx hb dX3_choose_75 (by decide) ?_
                  exact ih v2 v3 (v4 + 1) hm H locs hw ls (lv_sub hl [2, 3, 4, 5, 0] rfl)
                · have hm := (if_neg hq10).symm.trans hm
                  refine lv_iload hx hb dX3_choose_63 (lv_at hl 5 rfl) ?_
                  refine lv_istore_n (lv' := [(2, .int v4), (5, .ref (A q5)), (0, .ref (A a0)), (1, .int x1), (3, .int v3), (4, .int v4)]) hx hb dX3_choose_65 rfl hl (by decide) rfl (fun ls hl => ?_)
                  refine lv_aload hx hb dX3_choose_66 (lv_at hl 1 rfl) ?_
                  refine g1 hx hb hts hown hK hw hp6 2 (by decide) (.int (gF M q5 2)) rfl k_fl_RX3_76 (fun _ h => h) dX3_choose_68 ?_
                  refine lv_istore_n (lv' := [(3, .int (gF M q5 2)), (2, .int v4), (5, .ref (A q5)), (0, .ref (A a0)), (1, .int x1), (4, .int v4)]) hx hb dX3_choose_71 rfl hl (by decide) rfl (fun ls hl => ?_)
                  refine lv_iinc (v := (v4 + 1)) (lv' := [(4, .int (v4 + 1)), (3, .int (gF M q5 2)), (2, .int v4), (5, .ref (A q5)), (0, .ref (A a0)), (1, .int x1)]) hx hb dX3_choose_72 hl (k := 5) rfl rfl (by decide) rfl (fun ls hl => ?_)
                  refine lv_goto (tgt := 7) hx hb dX3_choose_75 (by decide) ?_
                  exact ih v4 (gF M q5 2) (v4 + 1) hm H locs hw ls (lv_sub hl [4, 5, 2, 1, 0] rfl)
            · have hm := (if_neg hq8).symm.trans hm
              refine lv_goto (tgt := 72) hx hb dX3_choose_46 (by decide) ?_
              refine lv_iinc (v := (v4 + 1)) (lv' := [(4, .int (v4 + 1)), (5, .ref (A q5)), (0, .ref (A a0)), (1, .int x1), (2, .int v2), (3, .int v3)]) hx hb dX3_choose_72 hl (k := 5) rfl rfl (by decide) rfl (fun ls hl => ?_)
              refine lv_goto (tgt := 7) hx hb dX3_choose_75 (by decide) ?_
              exact ih v2 v3 (v4 + 1) hm H locs hw ls (lv_sub hl [2, 3, 4, 5, 0] rfl)
  unfold m_X3_choose at hm
  revert hw
  suffices K : ∀ (H : Heap) (locs : List Loc), WD D cy (Fr A G s.heap.size) A s.heap G M H locs → W p l e (headSpec (wm yX3_choose cX3_choose 6 (some .int)) ({ frames := 1, cells := 0, slots := 0, locals := 21 } : Room)).room s m ([.ref (A a0), .int x1] : List Value).toArray below meth c H locs 0 0 (MQ below (va_Qi (fun (r' : Int32) (u : Mem) => r' = z ∧ u = M) (Po D cy A G (Fr A G s.heap.size)) (Fr A G s.heap.size)) ([.ref (A a0), .int x1] : List Value).toArray s 0 0 (Fr A G s.heap.size)) (F0 m 0 ls []) from fun hw => K _ _ hw
  intro H locs hw
  refine lv_iconst (v := (-1)) hx hb dX3_choose_0 (by decide) ?_
  refine lv_istore_n (lv' := [(2, .int (-1)), (0, .ref (A a0)), (1, .int x1)]) hx hb dX3_choose_1 rfl hl (by decide) rfl (fun ls hl => ?_)
  refine lv_iconst (v := 0) hx hb dX3_choose_2 (by decide) ?_
  refine lv_istore_n (lv' := [(3, .int 0), (2, .int (-1)), (0, .ref (A a0)), (1, .int x1)]) hx hb dX3_choose_3 rfl hl (by decide) rfl (fun ls hl => ?_)
  refine lv_iconst (v := 0) hx hb dX3_choose_4 (by decide) ?_
  refine lv_istore (lv' := [(4, .int 0), (3, .int 0), (2, .int (-1)), (0, .ref (A a0)), (1, .int x1)]) hx hb dX3_choose_5 hl (by decide) rfl (fun ls hl => ?_)
  exact J7 fuel (-1) 0 0 hm H locs hw ls (lv_sub hl [3, 4, 2, 1, 0] rfl)
set_option maxHeartbeats 4000000 in
set_option maxRecDepth 100000 in
theorem c_X3_beginLedger (l : Launch) {D : va_G} {cy : Nat → ClassId} {A : Nat → Nat} {G : Nat → Bool} {M : Mem} {sz : Nat} {a0 : Nat} {x1 : Int32} {x2 : Int32} {x3 : Int32} (h0 : TT G 2 a0)  {z : (Int32 × Mem)} (hm : m_X3_beginLedger a0 x1 x2 x3 M = some z) : Met l yX3_beginLedger (wm yX3_beginLedger cX3_beginLedger 7 (some .int)) ({ frames := 3, cells := 0, slots := 0, locals := 70 } : Room) (va_Pc [.ref (A a0), .int x1, .int x2, .int x3] (Pr D cy A G M sz)) (va_Qi (fun (r' : Int32) (u : Mem) => r' = z.1 ∧ u = z.2) (Po D cy A G (Fr A G sz)) (Fr A G sz))  0 0 (Fr A G sz) := by
  refine ofB (Qc := fun sz => va_Qi (fun (r' : Int32) (u : Mem) => r' = z.1 ∧ u = z.2) (Po D cy A G (Fr A G sz)) (Fr A G sz)) (by decide +kernel) (Nat.le_of_ble_eq_true rfl) ?_
  intro p e s m below meth c hx hb hr hts hown hlocks hml hmn hK hw ls hl
  have hl : lv_has ls 7 [(0, .ref (A a0)), (1, .int x1), (2, .int x2), (3, .int x3)] := hl
  have J40 : ∀  (n : Nat) (v4 : Int32) (v5 : Nat) (v6 : Int32) (M : Mem) (hv5 : TT G 0 v5), m_X3_beginLedger_L40 a0 x1 x2 x3 n v4 v5 v6 M = some z → ∀ (H : Heap) (locs : List Loc), WD D cy (Fr A G s.heap.size) A s.heap G M H locs → ∀ ls : Array Slot, lv_has ls 7 [(0, .ref (A a0)), (1, .int x1), (4, .int v4), (5, .ref (A v5)), (6, .int v6)] → W p l e (headSpec (wm yX3_beginLedger cX3_beginLedger 7 (some .int)) ({ frames := 3, cells := 0, slots := 0, locals := 70 } : Room)).room s m ([.ref (A a0), .int x1, .int x2, .int x3] : List Value).toArray below meth c H locs 0 0 (MQ below (va_Qi (fun (r' : Int32) (u : Mem) => r' = z.1 ∧ u = z.2) (Po D cy A G (Fr A G s.heap.size)) (Fr A G s.heap.size)) ([.ref (A a0), .int x1, .int x2, .int x3] : List Value).toArray s 0 0 (Fr A G s.heap.size)) (F0 m 40 ls []) := by
    intro n
    induction n with
    | zero =>
      intro v4 v5 v6 M hv5 hm
      cases (show (none : Option (Int32 × Mem)) = some z from hm)
    | succ n ih =>
      intro v4 v5 v6 M hv5 hm H locs hw ls hl
      have hm := (m_X3_beginLedger_L40_s a0 x1 x2 x3 n v4 v5 v6 M).symm.trans hm
      refine lv_iload hx hb dX3_beginLedger_40 (lv_at hl 4 rfl) ?_
      refine lv_iload_n hx hb dX3_beginLedger_42 rfl (lv_at hl 1 rfl) ?_
      refine lv_icmp_ge (tgt := 70) hx hb dX3_beginLedger_43 (by decide) (fun hq8 => ?_) (fun hq8 => ?_)
      · have hm := (if_pos hq8).symm.trans hm
        refine lv_iload hx hb dX3_beginLedger_70 (lv_at hl 2 rfl) ?_
        cases hm
        exact eI hx hb hr hlocks hK hw dX3_beginLedger_72
      · have hm := (if_neg hq8).symm.trans hm
        refine lv_aload hx hb dX3_beginLedger_46 (lv_at hl 3 rfl) ?_
        refine lv_iconst (v := 0) hx hb dX3_beginLedger_48 (by decide) ?_
        refine lv_iload hx hb dX3_beginLedger_49 (lv_at hl 4 rfl) ?_
        refine lv_aload_n hx hb dX3_beginLedger_51 rfl (lv_at hl 0 rfl) ?_
        refine lv_aload hx hb dX3_beginLedger_52 (lv_at hl 3 rfl) ?_
        refine lv_iconst (v := 0) hx hb dX3_beginLedger_54 (by decide) ?_
        obtain ⟨z9, e10, hm⟩ := bd_some hm
        refine ki hw Fr_hi (rV hx hb hml hts hown hK hw (c_X0_ensembleMask l hv5 e10) hv5 (by decide) rfl (mkV 1 hts k_ml_RX3_58 k_im_yX0_ensembleMask k_se_yX0_ensembleMask k_in_RX0 k_co_yX0_ensembleMask hd_X0_ensembleMask ⟨Nat.le_of_ble_eq_true rfl, Nat.le_of_ble_eq_true rfl⟩) rfl hl.1 rfl (Nat.le_of_ble_eq_true rfl) dX3_beginLedger_55 ⟨Nat.le_of_ble_eq_true rfl, Nat.le_of_ble_eq_true rfl⟩) (fun H locs hw => ?_)
        obtain ⟨z11, e12, hm⟩ := bd_some hm
        refine ki hw Fr_hi (rV hx hb hml hts hown hK hw (c_X3_choose l h0 e12) h0 (by decide) rfl (mkV 1 hts k_ml_RX3_62 k_im_yX3_choose k_se_yX3_choose k_in_RX3 k_co_yX3_choose hd_X3_choose ⟨Nat.le_of_ble_eq_true rfl, Nat.le_of_ble_eq_true rfl⟩) rfl hl.1 rfl (Nat.le_of_ble_eq_true rfl) dX3_beginLedger_58 ⟨Nat.le_of_ble_eq_true rfl, Nat.le_of_ble_eq_true rfl⟩) (fun H locs hw => ?_)
        obtain ⟨z13, e14, hm⟩ := bd_some hm
        refine kv hw Fr_hi (rV hx hb hml hts hown hK hw (c_X0_setNode l hv5 e14) hv5 (by decide) rfl (mkV 3 hts k_ml_RX3_65 k_im_yX0_setNode k_se_yX0_setNode k_in_RX0 k_co_yX0_setNode hd_X0_setNode ⟨Nat.le_of_ble_eq_true rfl, Nat.le_of_ble_eq_true rfl⟩) rfl hl.1 rfl (Nat.le_of_ble_eq_true rfl) dX3_beginLedger_61 ⟨Nat.le_of_ble_eq_true rfl, Nat.le_of_ble_eq_true rfl⟩) (fun H locs hw => ?_)
        refine lv_iinc (v := (v6 + 1)) (lv' := [(6, .int (v6 + 1)), (0, .ref (A a0)), (1, .int x1), (4, .int v4), (5, .ref (A v5))]) hx hb dX3_beginLedger_64 hl (k := 4) rfl rfl (by decide) rfl (fun ls hl => ?_)
        refine lv_goto (tgt := 40) hx hb dX3_beginLedger_67 (by decide) ?_
        exact ih v4 v5 (v6 + 1) z13 hv5 hm H locs hw ls (lv_sub hl [1, 2, 3, 4, 0] rfl)
  unfold m_X3_beginLedger at hm
  revert hw
  suffices K : ∀ (H : Heap) (locs : List Loc), WD D cy (Fr A G s.heap.size) A s.heap G M H locs → W p l e (headSpec (wm yX3_beginLedger cX3_beginLedger 7 (some .int)) ({ frames := 3, cells := 0, slots := 0, locals := 70 } : Room)).room s m ([.ref (A a0), .int x1, .int x2, .int x3] : List Value).toArray below meth c H locs 0 0 (MQ below (va_Qi (fun (r' : Int32) (u : Mem) => r' = z.1 ∧ u = z.2) (Po D cy A G (Fr A G s.heap.size)) (Fr A G s.heap.size)) ([.ref (A a0), .int x1, .int x2, .int x3] : List Value).toArray s 0 0 (Fr A G s.heap.size)) (F0 m 0 ls []) from fun hw => K _ _ hw
  intro H locs hw
  refine lv_aload_n hx hb dX3_beginLedger_0 rfl (lv_at hl 0 rfl) ?_
  refine g2 hx hb hts hown hK hw h0 1 (by decide) (.int (gF M a0 1)) rfl k_fl_RX3_31 (fun _ h => h) dX3_beginLedger_1 ?_
  refine lv_istore (lv' := [(4, .int (gF M a0 1)), (0, .ref (A a0)), (1, .int x1), (2, .int x2), (3, .int x3)]) hx hb dX3_beginLedger_4 hl (by decide) rfl (fun ls hl => ?_)
  refine lv_aload_n hx hb dX3_beginLedger_6 rfl (lv_at hl 1 rfl) ?_
  refine lv_dup hx hb dX3_beginLedger_7 rfl ?_
  refine g2 hx hb hts hown hK hw h0 1 (by decide) (.int (gF M a0 1)) rfl k_fl_RX3_31 (fun _ h => h) dX3_beginLedger_8 ?_
  refine lv_iconst (v := 1) hx hb dX3_beginLedger_11 (by decide) ?_
  refine lv_iadd hx hb dX3_beginLedger_12 ?_
  refine p2 hx hb hts hown hK hw h0 1 (by decide) k_fl_RX3_31 (fun _ h => h) rfl rfl rfl dX3_beginLedger_13 (fun H locs hw => ?_)
  refine lv_aload_n hx hb dX3_beginLedger_16 rfl (lv_at hl 1 rfl) ?_
  refine lv_iload hx hb dX3_beginLedger_17 (lv_at hl 0 rfl) ?_
  obtain ⟨z1, e2, hm⟩ := bd_some hm
  refine kq hw Fr_hi (rV hx hb hml hts hown hK hw (c_X3_ledger l h0 e2) h0 (by decide) rfl (mkV 1 hts k_ml_RX3_45 k_im_yX3_ledger k_se_yX3_ledger k_in_RX3 k_co_yX3_ledger hd_X3_ledger ⟨Nat.le_of_ble_eq_true rfl, Nat.le_of_ble_eq_true rfl⟩) rfl hl.1 rfl (Nat.le_of_ble_eq_true rfl) dX3_beginLedger_19 ⟨Nat.le_of_ble_eq_true rfl, Nat.le_of_ble_eq_true rfl⟩) (fun hr3 H locs hw => ?_) (fun q4 hr3 H locs hw => ?_)
  · have hm := (on_none hr3).symm.trans hm
    refine lv_astoreN (lv' := [(5, .null), (4, .int (gF M a0 1)), (0, .ref (A a0)), (1, .int x1), (2, .int x2), (3, .int x3)]) hx hb dX3_beginLedger_22 hl (by decide) rfl (fun ls hl => ?_)
    refine lv_aloadN hx hb dX3_beginLedger_24 (lv_at hl 0 rfl) ?_
    refine lv_ifnullN (tgt := 70) hx hb dX3_beginLedger_26 (by decide) ?_
    refine lv_iload hx hb dX3_beginLedger_70 (lv_at hl 1 rfl) ?_
    cases hm
    exact eI hx hb hr hlocks hK hw dX3_beginLedger_72
  · have hm := (on_some hr3).symm.trans hm
    have hp5 := t_X3_ledger h0 (hr3 ▸ e2)
    refine lv_astore (lv' := [(5, .ref (A q4)), (4, .int (gF M a0 1)), (0, .ref (A a0)), (1, .int x1), (2, .int x2), (3, .int x3)]) hx hb dX3_beginLedger_22 hl (by decide) rfl (fun ls hl => ?_)
    refine lv_aload hx hb dX3_beginLedger_24 (lv_at hl 0 rfl) ?_
    refine lv_ifnull hx hb dX3_beginLedger_26 ?_
    refine lv_aload hx hb dX3_beginLedger_29 (lv_at hl 0 rfl) ?_
    refine lv_iload_n hx hb dX3_beginLedger_31 rfl (lv_at hl 3 rfl) ?_
    refine lv_iload_n hx hb dX3_beginLedger_32 rfl (lv_at hl 4 rfl) ?_
    refine lv_iload_n hx hb dX3_beginLedger_33 rfl (lv_at hl 5 rfl) ?_
    obtain ⟨z6, e7, hm⟩ := bd_some hm
    refine kv hw Fr_hi (rV hx hb hml hts hown hK hw (c_X0_begin l hp5 e7) hp5 (by decide) rfl (mkV 3 hts k_ml_RX3_55 k_im_yX0_begin k_se_yX0_begin k_in_RX0 k_co_yX0_begin hd_X0_begin ⟨Nat.le_of_ble_eq_true rfl, Nat.le_of_ble_eq_true rfl⟩) rfl hl.1 rfl (Nat.le_of_ble_eq_true rfl) dX3_beginLedger_34 ⟨Nat.le_of_ble_eq_true rfl, Nat.le_of_ble_eq_true rfl⟩) (fun H locs hw => ?_)
    refine lv_iconst (v := 0) hx hb dX3_beginLedger_37 (by decide) ?_
    refine lv_istore (lv' := [(6, .int 0), (5, .ref (A q4)), (4, .int (gF M a0 1)), (0, .ref (A a0)), (1, .int x1), (2, .int x2), (3, .int x3)]) hx hb dX3_beginLedger_38 hl (by decide) rfl (fun ls hl => ?_)
    exact J40 fuel (gF M a0 1) q4 0 z6 hp5 hm H locs hw ls (lv_sub hl [3, 4, 2, 1, 0] rfl)
set_option maxHeartbeats 4000000 in
set_option maxRecDepth 100000 in
theorem c_X3_isUp (l : Launch) {D : va_G} {cy : Nat → ClassId} {A : Nat → Nat} {G : Nat → Bool} {M : Mem} {sz : Nat} {a0 : Nat} {x1 : Int32} (h0 : TT G 2 a0)  {z : Int32} (hm : m_X3_isUp a0 x1 M = some z) : Met l yX3_isUp (wm yX3_isUp cX3_isUp 3 (some .boolean)) ({ frames := 1, cells := 0, slots := 0, locals := 21 } : Room) (va_Pc [.ref (A a0), .int x1] (Pr D cy A G M sz)) (va_Qi (fun (r' : Int32) (u : Mem) => r' = z ∧ u = M) (Po D cy A G (Fr A G sz)) (Fr A G sz))  0 0 (Fr A G sz) := by
  refine ofB (Qc := fun sz => va_Qi (fun (r' : Int32) (u : Mem) => r' = z ∧ u = M) (Po D cy A G (Fr A G sz)) (Fr A G sz)) (by decide +kernel) (Nat.le_of_ble_eq_true rfl) ?_
  intro p e s m below meth c hx hb hr hts hown hlocks hml hmn hK hw ls hl
  have hl : lv_has ls 3 [(0, .ref (A a0)), (1, .int x1)] := hl
  unfold m_X3_isUp at hm
  revert hw
  suffices K : ∀ (H : Heap) (locs : List Loc), WD D cy (Fr A G s.heap.size) A s.heap G M H locs → W p l e (headSpec (wm yX3_isUp cX3_isUp 3 (some .boolean)) ({ frames := 1, cells := 0, slots := 0, locals := 21 } : Room)).room s m ([.ref (A a0), .int x1] : List Value).toArray below meth c H locs 0 0 (MQ below (va_Qi (fun (r' : Int32) (u : Mem) => r' = z ∧ u = M) (Po D cy A G (Fr A G s.heap.size)) (Fr A G s.heap.size)) ([.ref (A a0), .int x1] : List Value).toArray s 0 0 (Fr A G s.heap.size)) (F0 m 0 ls []) from fun hw => K _ _ hw
  intro H locs hw
  refine lv_aload_n hx hb dX3_isUp_0 rfl (lv_at hl 0 rfl) ?_
  refine lv_iload_n hx hb dX3_isUp_1 rfl (lv_at hl 1 rfl) ?_
  obtain ⟨z1, e2, hm⟩ := bd_some hm
  refine kq hw Fr_hi (rV hx hb hml hts hown hK hw (c_X3_node l h0 e2) h0 (by decide) rfl (mkV 1 hts k_ml_RX3_37 k_im_yX3_node k_se_yX3_node k_in_RX3 k_co_yX3_node hd_X3_node ⟨Nat.le_of_ble_eq_true rfl, Nat.le_of_ble_eq_true rfl⟩) rfl hl.1 rfl (Nat.le_of_ble_eq_true rfl) dX3_isUp_2 ⟨Nat.le_of_ble_eq_true rfl, Nat.le_of_ble_eq_true rfl⟩) (fun hr3 H locs hw => ?_) (fun q4 hr3 H locs hw => ?_)
  · have hm := (on_none hr3).symm.trans hm
    refine lv_astore_nN (lv' := [(2, .null), (0, .ref (A a0)), (1, .int x1)]) hx hb dX3_isUp_5 rfl hl (by decide) rfl (fun ls hl => ?_)
    refine lv_aload_nN hx hb dX3_isUp_6 rfl (lv_at hl 0 rfl) ?_
    refine lv_ifnullN (tgt := 21) hx hb dX3_isUp_7 (by decide) ?_
    refine lv_iconst (v := 0) hx hb dX3_isUp_21 (by decide) ?_
    cases hm
    exact eZ (show zb 0 by decide) hx hb hr hlocks hK hw dX3_isUp_22
  · have hm := (on_some hr3).symm.trans hm
    have hp5 := t_X3_node h0 (hr3 ▸ e2)
    refine lv_astore_n (lv' := [(2, .ref (A q4)), (0, .ref (A a0)), (1, .int x1)]) hx hb dX3_isUp_5 rfl hl (by decide) rfl (fun ls hl => ?_)
    refine lv_aload_n hx hb dX3_isUp_6 rfl (lv_at hl 0 rfl) ?_
    refine lv_ifnull hx hb dX3_isUp_7 ?_
    refine lv_aload_n hx hb dX3_isUp_10 rfl (lv_at hl 0 rfl) ?_
    refine g1 hx hb hts hown hK hw hp5 0 (by decide) (.int (gF M q4 0)) rfl k_fl_RX3_68 (fun _ h => h) dX3_isUp_11 ?_
    refine lv_if_eq (tgt := 21) hx hb dX3_isUp_14 (by decide) (fun hq6 => ?_) (fun hq6 => ?_)
    · have hm := (if_pos hq6).symm.trans hm
      refine lv_iconst (v := 0) hx hb dX3_isUp_21 (by decide) ?_
      cases hm
      exact eZ (show zb 0 by decide) hx hb hr hlocks hK hw dX3_isUp_22
    · have hm := (if_neg hq6).symm.trans hm
      refine lv_iconst (v := 1) hx hb dX3_isUp_17 (by decide) ?_
      refine lv_goto (tgt := 22) hx hb dX3_isUp_18 (by decide) ?_
      cases hm
      exact eZ (show zb 1 by decide) hx hb hr hlocks hK hw dX3_isUp_22
set_option maxHeartbeats 4000000 in
set_option maxRecDepth 100000 in
theorem c_X3_upMask (l : Launch) {D : va_G} {cy : Nat → ClassId} {A : Nat → Nat} {G : Nat → Bool} {M : Mem} {sz : Nat} {a0 : Nat} (h0 : TT G 2 a0)  {z : Int32} (hm : m_X3_upMask a0 M = some z) : Met l yX3_upMask (wm yX3_upMask cX3_upMask 3 (some .int)) ({ frames := 2, cells := 0, slots := 0, locals := 43 } : Room) (va_Pc [.ref (A a0)] (Pr D cy A G M sz)) (va_Qi (fun (r' : Int32) (u : Mem) => r' = z ∧ u = M) (Po D cy A G (Fr A G sz)) (Fr A G sz))  0 0 (Fr A G sz) := by
  refine ofB (Qc := fun sz => va_Qi (fun (r' : Int32) (u : Mem) => r' = z ∧ u = M) (Po D cy A G (Fr A G sz)) (Fr A G sz)) (by decide +kernel) (Nat.le_of_ble_eq_true rfl) ?_
  intro p e s m below meth c hx hb hr hts hown hlocks hml hmn hK hw ls hl
  have hl : lv_has ls 3 [(0, .ref (A a0))] := hl
  have J4 : ∀  (n : Nat) (v1 : Int32) (v2 : Int32), m_X3_upMask_L4 a0 M n v1 v2 = some z → ∀ (H : Heap) (locs : List Loc), WD D cy (Fr A G s.heap.size) A s.heap G M H locs → ∀ ls : Array Slot, lv_has ls 3 [(0, .ref (A a0)), (1, .int v1), (2, .int v2)] → W p l e (headSpec (wm yX3_upMask cX3_upMask 3 (some .int)) ({ frames := 2, cells := 0, slots := 0, locals := 43 } : Room)).room s m ([.ref (A a0)] : List Value).toArray below meth c H locs 0 0 (MQ below (va_Qi (fun (r' : Int32) (u : Mem) => r' = z ∧ u = M) (Po D cy A G (Fr A G s.heap.size)) (Fr A G s.heap.size)) ([.ref (A a0)] : List Value).toArray s 0 0 (Fr A G s.heap.size)) (F0 m 4 ls []) := by
    intro n
    induction n with
    | zero =>
      intro v1 v2 hm
      cases (show (none : Option Int32) = some z from hm)
    | succ n ih =>
      intro v1 v2 hm H locs hw ls hl
      have hm := (m_X3_upMask_L4_s a0 M n v1 v2).symm.trans hm
      refine lv_iload_n hx hb dX3_upMask_4 rfl (lv_at hl 2 rfl) ?_
      refine lv_aload_n hx hb dX3_upMask_5 rfl (lv_at hl 0 rfl) ?_
      refine g2 hx hb hts hown hK hw h0 0 (by decide) (.int (gF M a0 0)) rfl k_fl_RX3_27 (fun _ h => h) dX3_upMask_6 ?_
      refine lv_icmp_ge (tgt := 36) hx hb dX3_upMask_9 (by decide) (fun hq1 => ?_) (fun hq1 => ?_)
      · have hm := (if_pos hq1).symm.trans hm
        refine lv_iload_n hx hb dX3_upMask_36 rfl (lv_at hl 1 rfl) ?_
        cases hm
        exact eI hx hb hr hlocks hK hw dX3_upMask_37
      · have hm := (if_neg hq1).symm.trans hm
        refine lv_iload_n hx hb dX3_upMask_12 rfl (lv_at hl 1 rfl) ?_
        refine lv_aload_n hx hb dX3_upMask_13 rfl (lv_at hl 0 rfl) ?_
        refine lv_iload_n hx hb dX3_upMask_14 rfl (lv_at hl 2 rfl) ?_
        obtain ⟨z2, e3, hm⟩ := bd_some hm
        refine ki hw Fr_hi (rV hx hb hml hts hown hK hw (c_X3_isUp l h0 e3) h0 (by decide) rfl (mkV 1 hts k_ml_RX3_72 k_im_yX3_isUp k_se_yX3_isUp k_in_RX3 k_co_yX3_isUp hd_X3_isUp ⟨Nat.le_of_ble_eq_true rfl, Nat.le_of_ble_eq_true rfl⟩) rfl hl.1 rfl (Nat.le_of_ble_eq_true rfl) dX3_upMask_15 ⟨Nat.le_of_ble_eq_true rfl, Nat.le_of_ble_eq_true rfl⟩) (fun H locs hw => ?_)
        refine lv_if_eq (tgt := 27) hx hb dX3_upMask_18 (by decide) (fun hq4 => ?_) (fun hq4 => ?_)
        · have hm := (if_pos hq4).symm.trans hm
          refine lv_iconst (v := 0) hx hb dX3_upMask_27 (by decide) ?_
          refine lv_ior hx hb dX3_upMask_28 ?_
          refine lv_istore_n (lv' := [(1, .int (v1 ||| 0)), (0, .ref (A a0)), (2, .int v2)]) hx hb dX3_upMask_29 rfl hl (by decide) rfl (fun ls hl => ?_)
          refine lv_iinc (v := (v2 + 1)) (lv' := [(2, .int (v2 + 1)), (1, .int (v1 ||| 0)), (0, .ref (A a0))]) hx hb dX3_upMask_30 hl (k := 2) rfl rfl (by decide) rfl (fun ls hl => ?_)
          refine lv_goto (tgt := 4) hx hb dX3_upMask_33 (by decide) ?_
          exact ih (v1 ||| 0) (v2 + 1) hm H locs hw ls (lv_sub hl [2, 1, 0] rfl)
        · have hm := (if_neg hq4).symm.trans hm
          refine lv_iconst (v := 1) hx hb dX3_upMask_21 (by decide) ?_
          refine lv_iload_n hx hb dX3_upMask_22 rfl (lv_at hl 2 rfl) ?_
          refine lv_ishl hx hb dX3_upMask_23 ?_
          refine lv_goto (tgt := 28) hx hb dX3_upMask_24 (by decide) ?_
          refine lv_ior hx hb dX3_upMask_28 ?_
          refine lv_istore_n (lv' := [(1, .int (v1 ||| (1 <<< (v2 &&& 31)))), (0, .ref (A a0)), (2, .int v2)]) hx hb dX3_upMask_29 rfl hl (by decide) rfl (fun ls hl => ?_)
          refine lv_iinc (v := (v2 + 1)) (lv' := [(2, .int (v2 + 1)), (1, .int (v1 ||| (1 <<< (v2 &&& 31)))), (0, .ref (A a0))]) hx hb dX3_upMask_30 hl (k := 2) rfl rfl (by decide) rfl (fun ls hl => ?_)
          refine lv_goto (tgt := 4) hx hb dX3_upMask_33 (by decide) ?_
          exact ih (v1 ||| (1 <<< (v2 &&& 31))) (v2 + 1) hm H locs hw ls (lv_sub hl [2, 1, 0] rfl)
  unfold m_X3_upMask at hm
  revert hw
  suffices K : ∀ (H : Heap) (locs : List Loc), WD D cy (Fr A G s.heap.size) A s.heap G M H locs → W p l e (headSpec (wm yX3_upMask cX3_upMask 3 (some .int)) ({ frames := 2, cells := 0, slots := 0, locals := 43 } : Room)).room s m ([.ref (A a0)] : List Value).toArray below meth c H locs 0 0 (MQ below (va_Qi (fun (r' : Int32) (u : Mem) => r' = z ∧ u = M) (Po D cy A G (Fr A G s.heap.size)) (Fr A G s.heap.size)) ([.ref (A a0)] : List Value).toArray s 0 0 (Fr A G s.heap.size)) (F0 m 0 ls []) from fun hw => K _ _ hw
  intro H locs hw
  refine lv_iconst (v := 0) hx hb dX3_upMask_0 (by decide) ?_
  refine lv_istore_n (lv' := [(1, .int 0), (0, .ref (A a0))]) hx hb dX3_upMask_1 rfl hl (by decide) rfl (fun ls hl => ?_)
  refine lv_iconst (v := 0) hx hb dX3_upMask_2 (by decide) ?_
  refine lv_istore_n (lv' := [(2, .int 0), (1, .int 0), (0, .ref (A a0))]) hx hb dX3_upMask_3 rfl hl (by decide) rfl (fun ls hl => ?_)
  exact J4 fuel 0 0 hm H locs hw ls (lv_sub hl [2, 1, 0] rfl)
set_option maxHeartbeats 4000000 in
set_option maxRecDepth 100000 in
theorem c_X3_send (l : Launch) {D : va_G} {cy : Nat → ClassId} {A : Nat → Nat} {G : Nat → Bool} {M : Mem} {sz : Nat} {a0 : Nat} {x1 : Int32} {x2 : Int32} (h0 : TT G 2 a0)  {z : Mem} (hm : m_X3_send a0 x1 x2 M = some z) : Met l yX3_send (wm yX3_send cX3_send 4 none) ({ frames := 1, cells := 0, slots := 0, locals := 21 } : Room) (va_Pc [.ref (A a0), .int x1, .int x2] (Pr D cy A G M sz)) (va_Qv (fun (u : Mem) => u = z) (Po D cy A G (Fr A G sz)) (Fr A G sz))  0 0 (Fr A G sz) := by
  refine ofB (Qc := fun sz => va_Qv (fun (u : Mem) => u = z) (Po D cy A G (Fr A G sz)) (Fr A G sz)) (by decide +kernel) (Nat.le_of_ble_eq_true rfl) ?_
  intro p e s m below meth c hx hb hr hts hown hlocks hml hmn hK hw ls hl
  have hl : lv_has ls 4 [(0, .ref (A a0)), (1, .int x1), (2, .int x2)] := hl
  unfold m_X3_send at hm
  revert hw
  suffices K : ∀ (H : Heap) (locs : List Loc), WD D cy (Fr A G s.heap.size) A s.heap G M H locs → W p l e (headSpec (wm yX3_send cX3_send 4 none) ({ frames := 1, cells := 0, slots := 0, locals := 21 } : Room)).room s m ([.ref (A a0), .int x1, .int x2] : List Value).toArray below meth c H locs 0 0 (MQ below (va_Qv (fun (u : Mem) => u = z) (Po D cy A G (Fr A G s.heap.size)) (Fr A G s.heap.size)) ([.ref (A a0), .int x1, .int x2] : List Value).toArray s 0 0 (Fr A G s.heap.size)) (F0 m 0 ls []) from fun hw => K _ _ hw
  intro H locs hw
  refine lv_aload_n hx hb dX3_send_0 rfl (lv_at hl 0 rfl) ?_
  refine lv_iload_n hx hb dX3_send_1 rfl (lv_at hl 1 rfl) ?_
  obtain ⟨z1, e2, hm⟩ := bd_some hm
  refine kq hw Fr_hi (rV hx hb hml hts hown hK hw (c_X3_node l h0 e2) h0 (by decide) rfl (mkV 1 hts k_ml_RX3_37 k_im_yX3_node k_se_yX3_node k_in_RX3 k_co_yX3_node hd_X3_node ⟨Nat.le_of_ble_eq_true rfl, Nat.le_of_ble_eq_true rfl⟩) rfl hl.1 rfl (Nat.le_of_ble_eq_true rfl) dX3_send_2 ⟨Nat.le_of_ble_eq_true rfl, Nat.le_of_ble_eq_true rfl⟩) (fun hr3 H locs hw => ?_) (fun q4 hr3 H locs hw => ?_)
  · have hm := (on_none hr3).symm.trans hm
    refine lv_astore_nN (lv' := [(3, .null), (0, .ref (A a0)), (1, .int x1), (2, .int x2)]) hx hb dX3_send_5 rfl hl (by decide) rfl (fun ls hl => ?_)
    refine lv_aload_nN hx hb dX3_send_6 rfl (lv_at hl 0 rfl) ?_
    refine lv_ifnullN (tgt := 15) hx hb dX3_send_7 (by decide) ?_
    cases hm
    exact eV hx hb hr hlocks hK hw dX3_send_15
  · have hm := (on_some hr3).symm.trans hm
    have hp5 := t_X3_node h0 (hr3 ▸ e2)
    refine lv_astore_n (lv' := [(3, .ref (A q4)), (0, .ref (A a0)), (1, .int x1), (2, .int x2)]) hx hb dX3_send_5 rfl hl (by decide) rfl (fun ls hl => ?_)
    refine lv_aload_n hx hb dX3_send_6 rfl (lv_at hl 0 rfl) ?_
    refine lv_ifnull hx hb dX3_send_7 ?_
    refine lv_aload_n hx hb dX3_send_10 rfl (lv_at hl 0 rfl) ?_
    refine lv_iload_n hx hb dX3_send_11 rfl (lv_at hl 3 rfl) ?_
    obtain ⟨z6, e7, hm⟩ := bd_some hm
    refine kv hw Fr_hi (rV hx hb hml hts hown hK hw (c_X1_receive l hp5 e7) hp5 (by decide) rfl (mkV 1 hts k_ml_RX3_83 k_im_yX1_receive k_se_yX1_receive k_in_RX1 k_co_yX1_receive hd_X1_receive ⟨Nat.le_of_ble_eq_true rfl, Nat.le_of_ble_eq_true rfl⟩) rfl hl.1 rfl (Nat.le_of_ble_eq_true rfl) dX3_send_12 ⟨Nat.le_of_ble_eq_true rfl, Nat.le_of_ble_eq_true rfl⟩) (fun H locs hw => ?_)
    cases hm
    exact eV hx hb hr hlocks hK hw dX3_send_15
set_option maxHeartbeats 4000000 in
set_option maxRecDepth 100000 in
theorem c_X3_processOldest (l : Launch) {D : va_G} {cy : Nat → ClassId} {A : Nat → Nat} {G : Nat → Bool} {M : Mem} {sz : Nat} {a0 : Nat} {x1 : Int32} (h0 : TT G 2 a0)  {z : (Int32 × Mem)} (hm : m_X3_processOldest a0 x1 M = some z) : Met l yX3_processOldest (wm yX3_processOldest cX3_processOldest 6 (some .int)) ({ frames := 5, cells := 0, slots := 0, locals := 114 } : Room) (va_Pc [.ref (A a0), .int x1] (Pr D cy A G M sz)) (va_Qi (fun (r' : Int32) (u : Mem) => r' = z.1 ∧ u = z.2) (Po D cy A G (Fr A G sz)) (Fr A G sz))  0 0 (Fr A G sz) := by
  refine ofB (Qc := fun sz => va_Qi (fun (r' : Int32) (u : Mem) => r' = z.1 ∧ u = z.2) (Po D cy A G (Fr A G sz)) (Fr A G sz)) (by decide +kernel) (Nat.le_of_ble_eq_true rfl) ?_
  intro p e s m below meth c hx hb hr hts hown hlocks hml hmn hK hw ls hl
  have hl : lv_has ls 6 [(0, .ref (A a0)), (1, .int x1)] := hl
  unfold m_X3_processOldest at hm
  revert hw
  suffices K : ∀ (H : Heap) (locs : List Loc), WD D cy (Fr A G s.heap.size) A s.heap G M H locs → W p l e (headSpec (wm yX3_processOldest cX3_processOldest 6 (some .int)) ({ frames := 5, cells := 0, slots := 0, locals := 114 } : Room)).room s m ([.ref (A a0), .int x1] : List Value).toArray below meth c H locs 0 0 (MQ below (va_Qi (fun (r' : Int32) (u : Mem) => r' = z.1 ∧ u = z.2) (Po D cy A G (Fr A G s.heap.size)) (Fr A G s.heap.size)) ([.ref (A a0), .int x1] : List Value).toArray s 0 0 (Fr A G s.heap.size)) (F0 m 0 ls []) from fun hw => K _ _ hw
  intro H locs hw
  refine lv_aload_n hx hb dX3_processOldest_0 rfl (lv_at hl 0 rfl) ?_
  refine lv_iload_n hx hb dX3_processOldest_1 rfl (lv_at hl 1 rfl) ?_
  obtain ⟨z1, e2, hm⟩ := bd_some hm
  refine kq hw Fr_hi (rV hx hb hml hts hown hK hw (c_X3_node l h0 e2) h0 (by decide) rfl (mkV 1 hts k_ml_RX3_37 k_im_yX3_node k_se_yX3_node k_in_RX3 k_co_yX3_node hd_X3_node ⟨Nat.le_of_ble_eq_true rfl, Nat.le_of_ble_eq_true rfl⟩) rfl hl.1 rfl (Nat.le_of_ble_eq_true rfl) dX3_processOldest_2 ⟨Nat.le_of_ble_eq_true rfl, Nat.le_of_ble_eq_true rfl⟩) (fun hr3 H locs hw => ?_) (fun q4 hr3 H locs hw => ?_)
  · have hm := (on_none hr3).symm.trans hm
    refine lv_astore_nN (lv' := [(2, .null), (0, .ref (A a0)), (1, .int x1)]) hx hb dX3_processOldest_5 rfl hl (by decide) rfl (fun ls hl => ?_)
    refine lv_aload_nN hx hb dX3_processOldest_6 rfl (lv_at hl 0 rfl) ?_
    refine lv_ifnonnullN hx hb dX3_processOldest_7 ?_
    refine lv_iconst (v := (-1)) hx hb dX3_processOldest_10 (by decide) ?_
    cases hm
    exact eI hx hb hr hlocks hK hw dX3_processOldest_11
  · have hm := (on_some hr3).symm.trans hm
    have hp5 := t_X3_node h0 (hr3 ▸ e2)
    refine lv_astore_n (lv' := [(2, .ref (A q4)), (0, .ref (A a0)), (1, .int x1)]) hx hb dX3_processOldest_5 rfl hl (by decide) rfl (fun ls hl => ?_)
    refine lv_aload_n hx hb dX3_processOldest_6 rfl (lv_at hl 0 rfl) ?_
    refine lv_ifnonnull (tgt := 12) hx hb dX3_processOldest_7 (by decide) ?_
    refine lv_aload_n hx hb dX3_processOldest_12 rfl (lv_at hl 0 rfl) ?_
    obtain ⟨z6, e7, hm⟩ := bd_some hm
    refine ki hw Fr_hi (rV hx hb hml hts hown hK hw (c_X1_takeOldest l hp5 e7) hp5 (by decide) rfl (mkV 0 hts k_ml_RX3_86 k_im_yX1_takeOldest k_se_yX1_takeOldest k_in_RX1 k_co_yX1_takeOldest hd_X1_takeOldest ⟨Nat.le_of_ble_eq_true rfl, Nat.le_of_ble_eq_true rfl⟩) rfl hl.1 rfl (Nat.le_of_ble_eq_true rfl) dX3_processOldest_13 ⟨Nat.le_of_ble_eq_true rfl, Nat.le_of_ble_eq_true rfl⟩) (fun H locs hw => ?_)
    refine lv_istore_n (lv' := [(3, .int z6.1), (2, .ref (A q4)), (0, .ref (A a0)), (1, .int x1)]) hx hb dX3_processOldest_16 rfl hl (by decide) rfl (fun ls hl => ?_)
    refine lv_iload_n hx hb dX3_processOldest_17 rfl (lv_at hl 0 rfl) ?_
    refine lv_iconst (v := (-1)) hx hb dX3_processOldest_18 (by decide) ?_
    refine lv_icmp_ne (tgt := 24) hx hb dX3_processOldest_19 (by decide) (fun hq8 => ?_) (fun hq8 => ?_)
    · have hm := (if_neg hq8).symm.trans hm
      refine lv_iload_n hx hb dX3_processOldest_24 rfl (lv_at hl 0 rfl) ?_
      refine ki hw Fr_hi (rS hx hb hml hts hown hK hw (c_X2_ledgerOf l z6.1) (mkS 1 hts k_ml_RX3_90 k_st_yX2_ledgerOf k_in_RX2 k_co_yX2_ledgerOf hd_X2_ledgerOf ⟨Nat.le_of_ble_eq_true rfl, Nat.le_of_ble_eq_true rfl⟩) rfl hl.1 rfl (Nat.le_of_ble_eq_true rfl) dX3_processOldest_25 ⟨Nat.le_of_ble_eq_true rfl, Nat.le_of_ble_eq_true rfl⟩) (fun H locs hw => ?_)
      refine lv_istore (lv' := [(4, .int (m_X2_ledgerOf z6.1)), (3, .int z6.1), (2, .ref (A q4)), (0, .ref (A a0)), (1, .int x1)]) hx hb dX3_processOldest_28 hl (by decide) rfl (fun ls hl => ?_)
      refine lv_aload_n hx hb dX3_processOldest_30 rfl (lv_at hl 2 rfl) ?_
      refine lv_iload hx hb dX3_processOldest_31 (lv_at hl 0 rfl) ?_
      obtain ⟨z9, e10, hm⟩ := bd_some hm
      refine ki hw Fr_hi (rV hx hb hml hts hown hK hw (c_X1_isFencedFor l hp5 e10) hp5 (by decide) rfl (mkV 1 hts k_ml_RX3_95 k_im_yX1_isFencedFor k_se_yX1_isFencedFor k_in_RX1 k_co_yX1_isFencedFor hd_X1_isFencedFor ⟨Nat.le_of_ble_eq_true rfl, Nat.le_of_ble_eq_true rfl⟩) rfl hl.1 rfl (Nat.le_of_ble_eq_true rfl) dX3_processOldest_33 ⟨Nat.le_of_ble_eq_true rfl, Nat.le_of_ble_eq_true rfl⟩) (fun H locs hw => ?_)
      refine lv_if_eq (tgt := 51) hx hb dX3_processOldest_36 (by decide) (fun hq11 => ?_) (fun hq11 => ?_)
      · have hm := (if_pos hq11).symm.trans hm
        refine lv_aload_n hx hb dX3_processOldest_51 rfl (lv_at hl 2 rfl) ?_
        refine lv_iload_n hx hb dX3_processOldest_52 rfl (lv_at hl 1 rfl) ?_
        obtain ⟨z12, e13, hm⟩ := bd_some hm
        refine kv hw Fr_hi (rV hx hb hml hts hown hK hw (c_X1_keep l hp5 e13) hp5 (by decide) rfl (mkV 1 hts k_ml_RX3_98 k_im_yX1_keep k_se_yX1_keep k_in_RX1 k_co_yX1_keep hd_X1_keep ⟨Nat.le_of_ble_eq_true rfl, Nat.le_of_ble_eq_true rfl⟩) rfl hl.1 rfl (Nat.le_of_ble_eq_true rfl) dX3_processOldest_53 ⟨Nat.le_of_ble_eq_true rfl, Nat.le_of_ble_eq_true rfl⟩) (fun H locs hw => ?_)
        refine lv_aload_n hx hb dX3_processOldest_56 rfl (lv_at hl 3 rfl) ?_
        refine lv_iload hx hb dX3_processOldest_57 (lv_at hl 0 rfl) ?_
        obtain ⟨z14, e15, hm⟩ := bd_some hm
        refine kq hw Fr_hi (rV hx hb hml hts hown hK hw (c_X3_ledger l h0 e15) h0 (by decide) rfl (mkV 1 hts k_ml_RX3_45 k_im_yX3_ledger k_se_yX3_ledger k_in_RX3 k_co_yX3_ledger hd_X3_ledger ⟨Nat.le_of_ble_eq_true rfl, Nat.le_of_ble_eq_true rfl⟩) rfl hl.1 rfl (Nat.le_of_ble_eq_true rfl) dX3_processOldest_59 ⟨Nat.le_of_ble_eq_true rfl, Nat.le_of_ble_eq_true rfl⟩) (fun hr16 H locs hw => ?_) (fun q17 hr16 H locs hw => ?_)
        · have hm := (on_none hr16).symm.trans hm
          refine lv_astoreN (lv' := [(5, .null), (4, .int (m_X2_ledgerOf z6.1)), (3, .int z6.1), (2, .ref (A q4)), (0, .ref (A a0)), (1, .int x1)]) hx hb dX3_processOldest_62 hl (by decide) rfl (fun ls hl => ?_)
          refine lv_aloadN hx hb dX3_processOldest_64 (lv_at hl 0 rfl) ?_
          refine lv_ifnullN (tgt := 79) hx hb dX3_processOldest_66 (by decide) ?_
          refine lv_iconst (v := 1) hx hb dX3_processOldest_79 (by decide) ?_
          cases hm
          exact eI hx hb hr hlocks hK hw dX3_processOldest_80
        · have hm := (on_some hr16).symm.trans hm
          have hp18 := t_X3_ledger h0 (hr16 ▸ e15)
          refine lv_astore (lv' := [(5, .ref (A q17)), (4, .int (m_X2_ledgerOf z6.1)), (3, .int z6.1), (2, .ref (A q4)), (0, .ref (A a0)), (1, .int x1)]) hx hb dX3_processOldest_62 hl (by decide) rfl (fun ls hl => ?_)
          refine lv_aload hx hb dX3_processOldest_64 (lv_at hl 0 rfl) ?_
          refine lv_ifnull hx hb dX3_processOldest_66 ?_
          refine lv_aload hx hb dX3_processOldest_69 (lv_at hl 0 rfl) ?_
          refine lv_iload_n hx hb dX3_processOldest_71 rfl (lv_at hl 2 rfl) ?_
          refine ki hw Fr_hi (rS hx hb hml hts hown hK hw (c_X2_entryOf l z6.1) (mkS 1 hts k_ml_RX3_101 k_st_yX2_entryOf k_in_RX2 k_co_yX2_entryOf hd_X2_entryOf ⟨Nat.le_of_ble_eq_true rfl, Nat.le_of_ble_eq_true rfl⟩) rfl hl.1 rfl (Nat.le_of_ble_eq_true rfl) dX3_processOldest_72 ⟨Nat.le_of_ble_eq_true rfl, Nat.le_of_ble_eq_true rfl⟩) (fun H locs hw => ?_)
          refine lv_iload_n hx hb dX3_processOldest_75 rfl (lv_at hl 5 rfl) ?_
          obtain ⟨z19, e20, hm⟩ := bd_some hm
          refine kv hw Fr_hi (rV hx hb hml hts hown hK hw (c_X0_acknowledge l hp18 e20) hp18 (by decide) rfl (mkV 2 hts k_ml_RX3_104 k_im_yX0_acknowledge k_se_yX0_acknowledge k_in_RX0 k_co_yX0_acknowledge hd_X0_acknowledge ⟨Nat.le_of_ble_eq_true rfl, Nat.le_of_ble_eq_true rfl⟩) rfl hl.1 rfl (Nat.le_of_ble_eq_true rfl) dX3_processOldest_76 ⟨Nat.le_of_ble_eq_true rfl, Nat.le_of_ble_eq_true rfl⟩) (fun H locs hw => ?_)
          refine lv_iconst (v := 1) hx hb dX3_processOldest_79 (by decide) ?_
          cases hm
          exact eI hx hb hr hlocks hK hw dX3_processOldest_80
      · have hm := (if_neg hq11).symm.trans hm
        refine lv_aload_n hx hb dX3_processOldest_39 rfl (lv_at hl 3 rfl) ?_
        refine lv_dup hx hb dX3_processOldest_40 rfl ?_
        refine g2 hx hb hts hown hK hw h0 2 (by decide) (.int (gF z6.2 a0 2)) rfl k_fl_RX3_34 (fun _ h => h) dX3_processOldest_41 ?_
        refine lv_iconst (v := 1) hx hb dX3_processOldest_44 (by decide) ?_
        refine lv_iadd hx hb dX3_processOldest_45 ?_
        refine p2 hx hb hts hown hK hw h0 2 (by decide) k_fl_RX3_34 (fun _ h => h) rfl rfl rfl dX3_processOldest_46 (fun H locs hw => ?_)
        refine lv_iconst (v := 0) hx hb dX3_processOldest_49 (by decide) ?_
        cases hm
        exact eI hx hb hr hlocks hK hw dX3_processOldest_50
    · have hm := (if_pos hq8).symm.trans hm
      refine lv_iconst (v := (-1)) hx hb dX3_processOldest_22 (by decide) ?_
      cases hm
      exact eI hx hb hr hlocks hK hw dX3_processOldest_23
set_option maxHeartbeats 4000000 in
set_option maxRecDepth 100000 in
theorem c_X3_anyRequestWaits (l : Launch) {D : va_G} {cy : Nat → ClassId} {A : Nat → Nat} {G : Nat → Bool} {M : Mem} {sz : Nat} {a0 : Nat} (h0 : TT G 2 a0)  {z : Int32} (hm : m_X3_anyRequestWaits a0 M = some z) : Met l yX3_anyRequestWaits (wm yX3_anyRequestWaits cX3_anyRequestWaits 3 (some .boolean)) ({ frames := 1, cells := 0, slots := 0, locals := 21 } : Room) (va_Pc [.ref (A a0)] (Pr D cy A G M sz)) (va_Qi (fun (r' : Int32) (u : Mem) => r' = z ∧ u = M) (Po D cy A G (Fr A G sz)) (Fr A G sz))  0 0 (Fr A G sz) := by
  refine ofB (Qc := fun sz => va_Qi (fun (r' : Int32) (u : Mem) => r' = z ∧ u = M) (Po D cy A G (Fr A G sz)) (Fr A G sz)) (by decide +kernel) (Nat.le_of_ble_eq_true rfl) ?_
  intro p e s m below meth c hx hb hr hts hown hlocks hml hmn hK hw ls hl
  have hl : lv_has ls 3 [(0, .ref (A a0))] := hl
  have J2 : ∀  (n : Nat) (v1 : Int32), m_X3_anyRequestWaits_L2 a0 M n v1 = some z → ∀ (H : Heap) (locs : List Loc), WD D cy (Fr A G s.heap.size) A s.heap G M H locs → ∀ ls : Array Slot, lv_has ls 3 [(0, .ref (A a0)), (1, .int v1)] → W p l e (headSpec (wm yX3_anyRequestWaits cX3_anyRequestWaits 3 (some .boolean)) ({ frames := 1, cells := 0, slots := 0, locals := 21 } : Room)).room s m ([.ref (A a0)] : List Value).toArray below meth c H locs 0 0 (MQ below (va_Qi (fun (r' : Int32) (u : Mem) => r' = z ∧ u = M) (Po D cy A G (Fr A G s.heap.size)) (Fr A G s.heap.size)) ([.ref (A a0)] : List Value).toArray s 0 0 (Fr A G s.heap.size)) (F0 m 2 ls []) := by
    intro n
    induction n with
    | zero =>
      intro v1 hm
      cases (show (none : Option Int32) = some z from hm)
    | succ n ih =>
      intro v1 hm H locs hw ls hl
      have hm := (m_X3_anyRequestWaits_L2_s a0 M n v1).symm.trans hm
      refine lv_iload_n hx hb dX3_anyRequestWaits_2 rfl (lv_at hl 1 rfl) ?_
      refine lv_aload_n hx hb dX3_anyRequestWaits_3 rfl (lv_at hl 0 rfl) ?_
      refine g2 hx hb hts hown hK hw h0 0 (by decide) (.int (gF M a0 0)) rfl k_fl_RX3_27 (fun _ h => h) dX3_anyRequestWaits_4 ?_
      refine lv_icmp_ge (tgt := 35) hx hb dX3_anyRequestWaits_7 (by decide) (fun hq1 => ?_) (fun hq1 => ?_)
      · have hm := (if_pos hq1).symm.trans hm
        refine lv_iconst (v := 0) hx hb dX3_anyRequestWaits_35 (by decide) ?_
        cases hm
        exact eZ (show zb 0 by decide) hx hb hr hlocks hK hw dX3_anyRequestWaits_36
      · have hm := (if_neg hq1).symm.trans hm
        refine lv_aload_n hx hb dX3_anyRequestWaits_10 rfl (lv_at hl 0 rfl) ?_
        refine lv_iload_n hx hb dX3_anyRequestWaits_11 rfl (lv_at hl 1 rfl) ?_
        obtain ⟨z2, e3, hm⟩ := bd_some hm
        refine kq hw Fr_hi (rV hx hb hml hts hown hK hw (c_X3_node l h0 e3) h0 (by decide) rfl (mkV 1 hts k_ml_RX3_37 k_im_yX3_node k_se_yX3_node k_in_RX3 k_co_yX3_node hd_X3_node ⟨Nat.le_of_ble_eq_true rfl, Nat.le_of_ble_eq_true rfl⟩) rfl hl.1 rfl (Nat.le_of_ble_eq_true rfl) dX3_anyRequestWaits_12 ⟨Nat.le_of_ble_eq_true rfl, Nat.le_of_ble_eq_true rfl⟩) (fun hr4 H locs hw => ?_) (fun q5 hr4 H locs hw => ?_)
        · have hm := (on_none hr4).symm.trans hm
          refine lv_astore_nN (lv' := [(2, .null), (0, .ref (A a0)), (1, .int v1)]) hx hb dX3_anyRequestWaits_15 rfl hl (by decide) rfl (fun ls hl => ?_)
          refine lv_aload_nN hx hb dX3_anyRequestWaits_16 rfl (lv_at hl 0 rfl) ?_
          refine lv_ifnullN (tgt := 29) hx hb dX3_anyRequestWaits_17 (by decide) ?_
          refine lv_iinc (v := (v1 + 1)) (lv' := [(1, .int (v1 + 1)), (2, .null), (0, .ref (A a0))]) hx hb dX3_anyRequestWaits_29 hl (k := 2) rfl rfl (by decide) rfl (fun ls hl => ?_)
          refine lv_goto (tgt := 2) hx hb dX3_anyRequestWaits_32 (by decide) ?_
          exact ih (v1 + 1) hm H locs hw ls (lv_sub hl [2, 0] rfl)
        · have hm := (on_some hr4).symm.trans hm
          have hp6 := t_X3_node h0 (hr4 ▸ e3)
          refine lv_astore_n (lv' := [(2, .ref (A q5)), (0, .ref (A a0)), (1, .int v1)]) hx hb dX3_anyRequestWaits_15 rfl hl (by decide) rfl (fun ls hl => ?_)
          refine lv_aload_n hx hb dX3_anyRequestWaits_16 rfl (lv_at hl 0 rfl) ?_
          refine lv_ifnull hx hb dX3_anyRequestWaits_17 ?_
          refine lv_aload_n hx hb dX3_anyRequestWaits_20 rfl (lv_at hl 0 rfl) ?_
          refine g1 hx hb hts hown hK hw hp6 3 (by decide) (.int (gF M q5 3)) rfl k_fl_RX3_108 (fun _ h => h) dX3_anyRequestWaits_21 ?_
          refine lv_if_le (tgt := 29) hx hb dX3_anyRequestWaits_24 (by decide) (fun hq7 => ?_) (fun hq7 => ?_)
          · have hm := (if_pos hq7).symm.trans hm
            refine lv_iinc (v := (v1 + 1)) (lv' := [(1, .int (v1 + 1)), (2, .ref (A q5)), (0, .ref (A a0))]) hx hb dX3_anyRequestWaits_29 hl (k := 2) rfl rfl (by decide) rfl (fun ls hl => ?_)
            refine lv_goto (tgt := 2) hx hb dX3_anyRequestWaits_32 (by decide) ?_
            exact ih (v1 + 1) hm H locs hw ls (lv_sub hl [2, 0] rfl)
          · have hm := (if_neg hq7).symm.trans hm
            refine lv_iconst (v := 1) hx hb dX3_anyRequestWaits_27 (by decide) ?_
            cases hm
            exact eZ (show zb 1 by decide) hx hb hr hlocks hK hw dX3_anyRequestWaits_28
  unfold m_X3_anyRequestWaits at hm
  revert hw
  suffices K : ∀ (H : Heap) (locs : List Loc), WD D cy (Fr A G s.heap.size) A s.heap G M H locs → W p l e (headSpec (wm yX3_anyRequestWaits cX3_anyRequestWaits 3 (some .boolean)) ({ frames := 1, cells := 0, slots := 0, locals := 21 } : Room)).room s m ([.ref (A a0)] : List Value).toArray below meth c H locs 0 0 (MQ below (va_Qi (fun (r' : Int32) (u : Mem) => r' = z ∧ u = M) (Po D cy A G (Fr A G s.heap.size)) (Fr A G s.heap.size)) ([.ref (A a0)] : List Value).toArray s 0 0 (Fr A G s.heap.size)) (F0 m 0 ls []) from fun hw => K _ _ hw
  intro H locs hw
  refine lv_iconst (v := 0) hx hb dX3_anyRequestWaits_0 (by decide) ?_
  refine lv_istore_n (lv' := [(1, .int 0), (0, .ref (A a0))]) hx hb dX3_anyRequestWaits_1 rfl hl (by decide) rfl (fun ls hl => ?_)
  exact J2 fuel 0 hm H locs hw ls (lv_sub hl [1, 0] rfl)
set_option maxHeartbeats 4000000 in
set_option maxRecDepth 100000 in
theorem c_X3_write (l : Launch) {D : va_G} {cy : Nat → ClassId} {A : Nat → Nat} {G : Nat → Bool} {M : Mem} {sz : Nat} {a0 : Nat} {a1 : Nat} {x2 : Int32} (h0 : TT G 2 a0) (h1 : TT G 0 a1)  {z : (Int32 × Mem)} (hm : m_X3_write a0 a1 x2 M = some z) : Met l yX3_write (wm yX3_write cX3_write 8 (some .int)) ({ frames := 3, cells := 0, slots := 0, locals := 68 } : Room) (va_Pc [.ref (A a0), .ref (A a1), .int x2] (Pr D cy A G M sz)) (va_Qi (fun (r' : Int32) (u : Mem) => r' = z.1 ∧ u = z.2) (Po D cy A G (Fr A G sz)) (Fr A G sz))  0 0 (Fr A G sz) := by
  refine ofB (Qc := fun sz => va_Qi (fun (r' : Int32) (u : Mem) => r' = z.1 ∧ u = z.2) (Po D cy A G (Fr A G sz)) (Fr A G sz)) (by decide +kernel) (Nat.le_of_ble_eq_true rfl) ?_
  intro p e s m below meth c hx hb hr hts hown hlocks hml hmn hK hw ls hl
  have hl : lv_has ls 8 [(0, .ref (A a0)), (1, .ref (A a1)), (2, .int x2)] := hl
  have J36 : ∀  (n : Nat) (v4 : Int32) (v5 : Int32) (v6 : Int32) (v7 : Int32) (M : Mem), m_X3_write_L36 a0 a1 x2 n v4 v5 v6 v7 M = some z → ∀ (H : Heap) (locs : List Loc), WD D cy (Fr A G s.heap.size) A s.heap G M H locs → ∀ ls : Array Slot, lv_has ls 8 [(0, .ref (A a0)), (1, .ref (A a1)), (4, .int v4), (5, .int v5), (6, .int v6), (7, .int v7)] → W p l e (headSpec (wm yX3_write cX3_write 8 (some .int)) ({ frames := 3, cells := 0, slots := 0, locals := 68 } : Room)).room s m ([.ref (A a0), .ref (A a1), .int x2] : List Value).toArray below meth c H locs 0 0 (MQ below (va_Qi (fun (r' : Int32) (u : Mem) => r' = z.1 ∧ u = z.2) (Po D cy A G (Fr A G s.heap.size)) (Fr A G s.heap.size)) ([.ref (A a0), .ref (A a1), .int x2] : List Value).toArray s 0 0 (Fr A G s.heap.size)) (F0 m 36 ls []) := by
    intro n
    induction n with
    | zero =>
      intro v4 v5 v6 v7 M hm
      cases (show (none : Option (Int32 × Mem)) = some z from hm)
    | succ n ih =>
      intro v4 v5 v6 v7 M hm H locs hw ls hl
      have hm := (m_X3_write_L36_s a0 a1 x2 n v4 v5 v6 v7 M).symm.trans hm
      refine lv_iload hx hb dX3_write_36 (lv_at hl 5 rfl) ?_
      refine lv_aload_n hx hb dX3_write_38 rfl (lv_at hl 1 rfl) ?_
      refine g0 hx hb hts hown hK hw h1 2 (by decide) (.int (gF M a1 2)) rfl k_fl_RX3_127 (fun _ h => h) dX3_write_39 ?_
      refine lv_icmp_ge (tgt := 67) hx hb dX3_write_42 (by decide) (fun hq7 => ?_) (fun hq7 => ?_)
      · have hm := (if_pos hq7).symm.trans hm
        refine lv_iload hx hb dX3_write_67 (lv_at hl 2 rfl) ?_
        cases hm
        exact eI hx hb hr hlocks hK hw dX3_write_69
      · have hm := (if_neg hq7).symm.trans hm
        refine lv_aload_n hx hb dX3_write_45 rfl (lv_at hl 0 rfl) ?_
        refine lv_aload_n hx hb dX3_write_46 rfl (lv_at hl 1 rfl) ?_
        refine lv_iload hx hb dX3_write_47 (lv_at hl 4 rfl) ?_
        refine lv_iload hx hb dX3_write_49 (lv_at hl 2 rfl) ?_
        refine lv_iload hx hb dX3_write_51 (lv_at hl 5 rfl) ?_
        obtain ⟨z8, e9, hm⟩ := bd_some hm
        refine ki hw Fr_hi (rV hx hb hml hts hown hK hw (c_X0_writeSetNode l h1 e9) h1 (by decide) rfl (mkV 3 hts k_ml_RX3_130 k_im_yX0_writeSetNode k_se_yX0_writeSetNode k_in_RX0 k_co_yX0_writeSetNode hd_X0_writeSetNode ⟨Nat.le_of_ble_eq_true rfl, Nat.le_of_ble_eq_true rfl⟩) rfl hl.1 rfl (Nat.le_of_ble_eq_true rfl) dX3_write_53 ⟨Nat.le_of_ble_eq_true rfl, Nat.le_of_ble_eq_true rfl⟩) (fun H locs hw => ?_)
        refine lv_iload hx hb dX3_write_56 (lv_at hl 3 rfl) ?_
        obtain ⟨z10, e11, hm⟩ := bd_some hm
        refine kv hw Fr_hi (rV hx hb hml hts hown hK hw (c_X3_send l h0 e11) h0 (by decide) rfl (mkV 2 hts k_ml_RX3_134 k_im_yX3_send k_se_yX3_send k_in_RX3 k_co_yX3_send hd_X3_send ⟨Nat.le_of_ble_eq_true rfl, Nat.le_of_ble_eq_true rfl⟩) rfl hl.1 rfl (Nat.le_of_ble_eq_true rfl) dX3_write_58 ⟨Nat.le_of_ble_eq_true rfl, Nat.le_of_ble_eq_true rfl⟩) (fun H locs hw => ?_)
        refine lv_iinc (v := (v7 + 1)) (lv' := [(7, .int (v7 + 1)), (0, .ref (A a0)), (1, .ref (A a1)), (4, .int v4), (5, .int v5), (6, .int v6)]) hx hb dX3_write_61 hl (k := 5) rfl rfl (by decide) rfl (fun ls hl => ?_)
        refine lv_goto (tgt := 36) hx hb dX3_write_64 (by decide) ?_
        exact ih v4 v5 v6 (v7 + 1) z10 hm H locs hw ls (lv_sub hl [1, 2, 3, 4, 5, 0] rfl)
  unfold m_X3_write at hm
  revert hw
  suffices K : ∀ (H : Heap) (locs : List Loc), WD D cy (Fr A G s.heap.size) A s.heap G M H locs → W p l e (headSpec (wm yX3_write cX3_write 8 (some .int)) ({ frames := 3, cells := 0, slots := 0, locals := 68 } : Room)).room s m ([.ref (A a0), .ref (A a1), .int x2] : List Value).toArray below meth c H locs 0 0 (MQ below (va_Qi (fun (r' : Int32) (u : Mem) => r' = z.1 ∧ u = z.2) (Po D cy A G (Fr A G s.heap.size)) (Fr A G s.heap.size)) ([.ref (A a0), .ref (A a1), .int x2] : List Value).toArray s 0 0 (Fr A G s.heap.size)) (F0 m 0 ls []) from fun hw => K _ _ hw
  intro H locs hw
  refine lv_aload_n hx hb dX3_write_0 rfl (lv_at hl 1 rfl) ?_
  obtain ⟨z1, e2, hm⟩ := bd_some hm
  refine ki hw Fr_hi (rV hx hb hml hts hown hK hw (c_X0_lastConfirmed l h1 e2) h1 (by decide) rfl (mkV 0 hts k_ml_RX3_111 k_im_yX0_lastConfirmed k_se_yX0_lastConfirmed k_in_RX0 k_co_yX0_lastConfirmed hd_X0_lastConfirmed ⟨Nat.le_of_ble_eq_true rfl, Nat.le_of_ble_eq_true rfl⟩) rfl hl.1 rfl (Nat.le_of_ble_eq_true rfl) dX3_write_1 ⟨Nat.le_of_ble_eq_true rfl, Nat.le_of_ble_eq_true rfl⟩) (fun H locs hw => ?_)
  refine lv_istore_n (lv' := [(3, .int z1), (0, .ref (A a0)), (1, .ref (A a1)), (2, .int x2)]) hx hb dX3_write_4 rfl hl (by decide) rfl (fun ls hl => ?_)
  refine lv_aload_n hx hb dX3_write_5 rfl (lv_at hl 2 rfl) ?_
  refine lv_iload_n hx hb dX3_write_6 rfl (lv_at hl 3 rfl) ?_
  obtain ⟨z3, e4, hm⟩ := bd_some hm
  refine ki hw Fr_hi (rV hx hb hml hts hown hK hw (c_X0_addEntry l h1 e4) h1 (by decide) rfl (mkV 1 hts k_ml_RX3_114 k_im_yX0_addEntry k_se_yX0_addEntry k_in_RX0 k_co_yX0_addEntry hd_X0_addEntry ⟨Nat.le_of_ble_eq_true rfl, Nat.le_of_ble_eq_true rfl⟩) rfl hl.1 rfl (Nat.le_of_ble_eq_true rfl) dX3_write_7 ⟨Nat.le_of_ble_eq_true rfl, Nat.le_of_ble_eq_true rfl⟩) (fun H locs hw => ?_)
  refine lv_istore (lv' := [(4, .int z3.1), (3, .int z1), (0, .ref (A a0)), (1, .ref (A a1)), (2, .int x2)]) hx hb dX3_write_10 hl (by decide) rfl (fun ls hl => ?_)
  refine lv_aload_n hx hb dX3_write_12 rfl (lv_at hl 3 rfl) ?_
  refine g0 hx hb hts hown hK hw h1 0 (by decide) (.int (gF z3.2 a1 0)) rfl k_fl_RX3_117 (fun _ h => h) dX3_write_13 ?_
  refine lv_iload hx hb dX3_write_16 (lv_at hl 0 rfl) ?_
  refine lv_iload_n hx hb dX3_write_18 rfl (lv_at hl 4 rfl) ?_
  refine lv_iload_n hx hb dX3_write_19 rfl (lv_at hl 1 rfl) ?_
  refine ki hw Fr_hi (rS hx hb hml hts hown hK hw (c_X2_of l (gF z3.2 a1 0) z3.1 x2 z1) (mkS 4 hts k_ml_RX3_120 k_st_yX2_of k_in_RX2 k_co_yX2_of hd_X2_of ⟨Nat.le_of_ble_eq_true rfl, Nat.le_of_ble_eq_true rfl⟩) rfl hl.1 rfl (Nat.le_of_ble_eq_true rfl) dX3_write_20 ⟨Nat.le_of_ble_eq_true rfl, Nat.le_of_ble_eq_true rfl⟩) (fun H locs hw => ?_)
  refine lv_istore (lv' := [(5, .int (m_X2_of (gF z3.2 a1 0) z3.1 x2 z1)), (4, .int z3.1), (3, .int z1), (0, .ref (A a0)), (1, .ref (A a1)), (2, .int x2)]) hx hb dX3_write_23 hl (by decide) rfl (fun ls hl => ?_)
  refine lv_aload_n hx hb dX3_write_25 rfl (lv_at hl 4 rfl) ?_
  refine lv_iload hx hb dX3_write_26 (lv_at hl 1 rfl) ?_
  obtain ⟨z5, e6, hm⟩ := bd_some hm
  refine ki hw Fr_hi (rV hx hb hml hts hown hK hw (c_X0_fragmentOf l h1 e6) h1 (by decide) rfl (mkV 1 hts k_ml_RX3_124 k_im_yX0_fragmentOf k_se_yX0_fragmentOf k_in_RX0 k_co_yX0_fragmentOf hd_X0_fragmentOf ⟨Nat.le_of_ble_eq_true rfl, Nat.le_of_ble_eq_true rfl⟩) rfl hl.1 rfl (Nat.le_of_ble_eq_true rfl) dX3_write_28 ⟨Nat.le_of_ble_eq_true rfl, Nat.le_of_ble_eq_true rfl⟩) (fun H locs hw => ?_)
  refine lv_istore (lv' := [(6, .int z5), (5, .int (m_X2_of (gF z3.2 a1 0) z3.1 x2 z1)), (4, .int z3.1), (3, .int z1), (0, .ref (A a0)), (1, .ref (A a1)), (2, .int x2)]) hx hb dX3_write_31 hl (by decide) rfl (fun ls hl => ?_)
  refine lv_iconst (v := 0) hx hb dX3_write_33 (by decide) ?_
  refine lv_istore (lv' := [(7, .int 0), (6, .int z5), (5, .int (m_X2_of (gF z3.2 a1 0) z3.1 x2 z1)), (4, .int z3.1), (3, .int z1), (0, .ref (A a0)), (1, .ref (A a1)), (2, .int x2)]) hx hb dX3_write_34 hl (by decide) rfl (fun ls hl => ?_)
  exact J36 fuel z3.1 (m_X2_of (gF z3.2 a1 0) z3.1 x2 z1) z5 0 z3.2 hm H locs hw ls (lv_sub hl [5, 6, 3, 2, 1, 0] rfl)
set_option maxHeartbeats 4000000 in
set_option maxRecDepth 100000 in
theorem c_X3_changeEnsemble (l : Launch) {D : va_G} {cy : Nat → ClassId} {A : Nat → Nat} {G : Nat → Bool} {M : Mem} {sz : Nat} {a0 : Nat} {a1 : Nat} {x2 : Int32} {x3 : Int32} (h0 : TT G 2 a0) (h1 : TT G 0 a1)  {z : Mem} (hm : m_X3_changeEnsemble a0 a1 x2 x3 M = some z) : Met l yX3_changeEnsemble (wm yX3_changeEnsemble cX3_changeEnsemble 8 none) ({ frames := 4, cells := 0, slots := 0, locals := 92 } : Room) (va_Pc [.ref (A a0), .ref (A a1), .int x2, .int x3] (Pr D cy A G M sz)) (va_Qv (fun (u : Mem) => u = z) (Po D cy A G (Fr A G sz)) (Fr A G sz))  0 0 (Fr A G sz) := by
  refine ofB (Qc := fun sz => va_Qv (fun (u : Mem) => u = z) (Po D cy A G (Fr A G sz)) (Fr A G sz)) (by decide +kernel) (Nat.le_of_ble_eq_true rfl) ?_
  intro p e s m below meth c hx hb hr hts hown hlocks hml hmn hK hw ls hl
  have hl : lv_has ls 8 [(0, .ref (A a0)), (1, .ref (A a1)), (2, .int x2), (3, .int x3)] := hl
  have J64 : ∀  (n : Nat) (v4 : Int32) (v7 : Int32) (M : Mem), m_X3_changeEnsemble_L64 a0 a1 x2 x3 n v4 v7 M = some z → ∀ (H : Heap) (locs : List Loc), WD D cy (Fr A G s.heap.size) A s.heap G M H locs → ∀ ls : Array Slot, lv_has ls 8 [(0, .ref (A a0)), (1, .ref (A a1)), (3, .int x3), (4, .int v4), (7, .int v7)] → W p l e (headSpec (wm yX3_changeEnsemble cX3_changeEnsemble 8 none) ({ frames := 4, cells := 0, slots := 0, locals := 92 } : Room)).room s m ([.ref (A a0), .ref (A a1), .int x2, .int x3] : List Value).toArray below meth c H locs 0 0 (MQ below (va_Qv (fun (u : Mem) => u = z) (Po D cy A G (Fr A G s.heap.size)) (Fr A G s.heap.size)) ([.ref (A a0), .ref (A a1), .int x2, .int x3] : List Value).toArray s 0 0 (Fr A G s.heap.size)) (F0 m 64 ls []) := by
    intro n
    induction n with
    | zero =>
      intro v4 v7 M hm
      cases (show (none : Option Mem) = some z from hm)
    | succ n ih =>
      intro v4 v7 M hm H locs hw ls hl
      have hm := (m_X3_changeEnsemble_L64_s a0 a1 x2 x3 n v4 v7 M).symm.trans hm
      refine lv_iload hx hb dX3_changeEnsemble_64 (lv_at hl 4 rfl) ?_
      refine lv_aload_n hx hb dX3_changeEnsemble_66 rfl (lv_at hl 1 rfl) ?_
      refine g0 hx hb hts hown hK hw h1 5 (by decide) (.int (gF M a1 5)) rfl k_fl_RX3_153 (fun _ h => h) dX3_changeEnsemble_67 ?_
      refine lv_icmp_ge (tgt := 118) hx hb dX3_changeEnsemble_70 (by decide) (fun hq12 => ?_) (fun hq12 => ?_)
      · have hm := (if_pos hq12).symm.trans hm
        cases hm
        exact eV hx hb hr hlocks hK hw dX3_changeEnsemble_118
      · have hm := (if_neg hq12).symm.trans hm
        refine lv_aload_n hx hb dX3_changeEnsemble_73 rfl (lv_at hl 1 rfl) ?_
        refine lv_aload_n hx hb dX3_changeEnsemble_74 rfl (lv_at hl 1 rfl) ?_
        refine ki hw Fr_hi (rV hx hb hml hts hown hK hw (c_X0_lastFragment l h1) h1 (by decide) rfl (mkV 0 hts k_ml_RX3_137 k_im_yX0_lastFragment k_se_yX0_lastFragment k_in_RX0 k_co_yX0_lastFragment hd_X0_lastFragment ⟨Nat.le_of_ble_eq_true rfl, Nat.le_of_ble_eq_true rfl⟩) rfl hl.1 rfl (Nat.le_of_ble_eq_true rfl) dX3_changeEnsemble_75 ⟨Nat.le_of_ble_eq_true rfl, Nat.le_of_ble_eq_true rfl⟩) (fun H locs hw => ?_)
        refine lv_iload hx hb dX3_changeEnsemble_78 (lv_at hl 4 rfl) ?_
        obtain ⟨z13, e14, hm⟩ := bd_some hm
        refine ki hw Fr_hi (rV hx hb hml hts hown hK hw (c_X0_writeSetMask l h1 e14) h1 (by decide) rfl (mkV 2 hts k_ml_RX3_156 k_im_yX0_writeSetMask k_se_yX0_writeSetMask k_in_RX0 k_co_yX0_writeSetMask hd_X0_writeSetMask ⟨Nat.le_of_ble_eq_true rfl, Nat.le_of_ble_eq_true rfl⟩) rfl hl.1 rfl (Nat.le_of_ble_eq_true rfl) dX3_changeEnsemble_80 ⟨Nat.le_of_ble_eq_true rfl, Nat.le_of_ble_eq_true rfl⟩) (fun H locs hw => ?_)
        refine lv_iload_n hx hb dX3_changeEnsemble_83 rfl (lv_at hl 2 rfl) ?_
        refine ki hw Fr_hi (rSN hx hb hml hts hown hK hw (c_X5_contains l z13 x3) (mkSN 2 hts hK.2.2.2.2.2.2.2.1 k_st_yX5_contains k_in_RX5 k_co_yX5_contains hd_X5_contains ⟨Nat.le_of_ble_eq_true rfl, Nat.le_of_ble_eq_true rfl⟩) rfl hl.1 rfl (Nat.le_of_ble_eq_true rfl) dX3_changeEnsemble_84 ⟨Nat.le_of_ble_eq_true rfl, Nat.le_of_ble_eq_true rfl⟩) (fun H locs hw => ?_)
        refine lv_if_eq (tgt := 112) hx hb dX3_changeEnsemble_87 (by decide) (fun hq15 => ?_) (fun hq15 => ?_)
        · have hm := (if_pos hq15).symm.trans hm
          refine lv_iinc (v := (v7 + 1)) (lv' := [(7, .int (v7 + 1)), (0, .ref (A a0)), (1, .ref (A a1)), (3, .int x3), (4, .int v4)]) hx hb dX3_changeEnsemble_112 hl (k := 4) rfl rfl (by decide) rfl (fun ls hl => ?_)
          refine lv_goto (tgt := 64) hx hb dX3_changeEnsemble_115 (by decide) ?_
          exact ih v4 (v7 + 1) M hm H locs hw ls (lv_sub hl [1, 2, 3, 4, 0] rfl)
        · have hm := (if_neg hq15).symm.trans hm
          refine lv_aload_n hx hb dX3_changeEnsemble_90 rfl (lv_at hl 0 rfl) ?_
          refine lv_iload_n hx hb dX3_changeEnsemble_91 rfl (lv_at hl 2 rfl) ?_
          refine lv_aload_n hx hb dX3_changeEnsemble_92 rfl (lv_at hl 1 rfl) ?_
          refine g0 hx hb hts hown hK hw h1 0 (by decide) (.int (gF M a1 0)) rfl k_fl_RX3_117 (fun _ h => h) dX3_changeEnsemble_93 ?_
          refine lv_iload hx hb dX3_changeEnsemble_96 (lv_at hl 4 rfl) ?_
          refine lv_aload_n hx hb dX3_changeEnsemble_98 rfl (lv_at hl 1 rfl) ?_
          refine lv_iload hx hb dX3_changeEnsemble_99 (lv_at hl 4 rfl) ?_
          obtain ⟨z16, e17, hm⟩ := bd_some hm
          refine ki hw Fr_hi (rV hx hb hml hts hown hK hw (c_X0_payloadOf l h1 e17) h1 (by decide) rfl (mkV 1 hts k_ml_RX3_159 k_im_yX0_payloadOf k_se_yX0_payloadOf k_in_RX0 k_co_yX0_payloadOf hd_X0_payloadOf ⟨Nat.le_of_ble_eq_true rfl, Nat.le_of_ble_eq_true rfl⟩) rfl hl.1 rfl (Nat.le_of_ble_eq_true rfl) dX3_changeEnsemble_101 ⟨Nat.le_of_ble_eq_true rfl, Nat.le_of_ble_eq_true rfl⟩) (fun H locs hw => ?_)
          refine lv_iload hx hb dX3_changeEnsemble_104 (lv_at hl 3 rfl) ?_
          refine ki hw Fr_hi (rS hx hb hml hts hown hK hw (c_X2_of l (gF M a1 0) v7 z16 v4) (mkS 4 hts k_ml_RX3_120 k_st_yX2_of k_in_RX2 k_co_yX2_of hd_X2_of ⟨Nat.le_of_ble_eq_true rfl, Nat.le_of_ble_eq_true rfl⟩) rfl hl.1 rfl (Nat.le_of_ble_eq_true rfl) dX3_changeEnsemble_106 ⟨Nat.le_of_ble_eq_true rfl, Nat.le_of_ble_eq_true rfl⟩) (fun H locs hw => ?_)
          obtain ⟨z18, e19, hm⟩ := bd_some hm
          refine kv hw Fr_hi (rV hx hb hml hts hown hK hw (c_X3_send l h0 e19) h0 (by decide) rfl (mkV 2 hts k_ml_RX3_134 k_im_yX3_send k_se_yX3_send k_in_RX3 k_co_yX3_send hd_X3_send ⟨Nat.le_of_ble_eq_true rfl, Nat.le_of_ble_eq_true rfl⟩) rfl hl.1 rfl (Nat.le_of_ble_eq_true rfl) dX3_changeEnsemble_109 ⟨Nat.le_of_ble_eq_true rfl, Nat.le_of_ble_eq_true rfl⟩) (fun H locs hw => ?_)
          refine lv_iinc (v := (v7 + 1)) (lv' := [(7, .int (v7 + 1)), (0, .ref (A a0)), (1, .ref (A a1)), (3, .int x3), (4, .int v4)]) hx hb dX3_changeEnsemble_112 hl (k := 4) rfl rfl (by decide) rfl (fun ls hl => ?_)
          refine lv_goto (tgt := 64) hx hb dX3_changeEnsemble_115 (by decide) ?_
          exact ih v4 (v7 + 1) z18 hm H locs hw ls (lv_sub hl [1, 2, 3, 4, 0] rfl)
  have J42 : ∀  (v4 : Int32) (v5 : Int32) (v6 : Int32) (M : Mem), m_X3_changeEnsemble_b42 a0 a1 x2 x3 v4 v5 v6 M = some z → ∀ (H : Heap) (locs : List Loc), WD D cy (Fr A G s.heap.size) A s.heap G M H locs → ∀ ls : Array Slot, lv_has ls 8 [(0, .ref (A a0)), (1, .ref (A a1)), (2, .int x2), (3, .int x3), (4, .int v4), (5, .int v5), (6, .int v6)] → W p l e (headSpec (wm yX3_changeEnsemble cX3_changeEnsemble 8 none) ({ frames := 4, cells := 0, slots := 0, locals := 92 } : Room)).room s m ([.ref (A a0), .ref (A a1), .int x2, .int x3] : List Value).toArray below meth c H locs 0 0 (MQ below (va_Qv (fun (u : Mem) => u = z) (Po D cy A G (Fr A G s.heap.size)) (Fr A G s.heap.size)) ([.ref (A a0), .ref (A a1), .int x2, .int x3] : List Value).toArray s 0 0 (Fr A G s.heap.size)) (F0 m 42 ls []) := by
    intro v4 v5 v6 M hm H locs hw ls hl
    unfold m_X3_changeEnsemble_b42 at hm
    refine lv_aload_n hx hb dX3_changeEnsemble_42 rfl (lv_at hl 1 rfl) ?_
    refine lv_aload_n hx hb dX3_changeEnsemble_43 rfl (lv_at hl 1 rfl) ?_
    refine ki hw Fr_hi (rV hx hb hml hts hown hK hw (c_X0_lastFragment l h1) h1 (by decide) rfl (mkV 0 hts k_ml_RX3_137 k_im_yX0_lastFragment k_se_yX0_lastFragment k_in_RX0 k_co_yX0_lastFragment hd_X0_lastFragment ⟨Nat.le_of_ble_eq_true rfl, Nat.le_of_ble_eq_true rfl⟩) rfl hl.1 rfl (Nat.le_of_ble_eq_true rfl) dX3_changeEnsemble_44 ⟨Nat.le_of_ble_eq_true rfl, Nat.le_of_ble_eq_true rfl⟩) (fun H locs hw => ?_)
    refine lv_iload_n hx hb dX3_changeEnsemble_47 rfl (lv_at hl 2 rfl) ?_
    refine lv_iload_n hx hb dX3_changeEnsemble_48 rfl (lv_at hl 3 rfl) ?_
    obtain ⟨z8, e9, hm⟩ := bd_some hm
    refine kv hw Fr_hi (rV hx hb hml hts hown hK hw (c_X0_setNode l h1 e9) h1 (by decide) rfl (mkV 3 hts k_ml_RX3_65 k_im_yX0_setNode k_se_yX0_setNode k_in_RX0 k_co_yX0_setNode hd_X0_setNode ⟨Nat.le_of_ble_eq_true rfl, Nat.le_of_ble_eq_true rfl⟩) rfl hl.1 rfl (Nat.le_of_ble_eq_true rfl) dX3_changeEnsemble_49 ⟨Nat.le_of_ble_eq_true rfl, Nat.le_of_ble_eq_true rfl⟩) (fun H locs hw => ?_)
    refine lv_aload_n hx hb dX3_changeEnsemble_52 rfl (lv_at hl 1 rfl) ?_
    refine lv_iload hx hb dX3_changeEnsemble_53 (lv_at hl 5 rfl) ?_
    refine lv_iload hx hb dX3_changeEnsemble_55 (lv_at hl 6 rfl) ?_
    obtain ⟨z10, e11, hm⟩ := bd_some hm
    refine kv hw Fr_hi (rV hx hb hml hts hown hK hw (c_X0_forgetAcknowledgements l h1 e11) h1 (by decide) rfl (mkV 2 hts k_ml_RX3_150 k_im_yX0_forgetAcknowledgements k_se_yX0_forgetAcknowledgements k_in_RX0 k_co_yX0_forgetAcknowledgements hd_X0_forgetAcknowledgements ⟨Nat.le_of_ble_eq_true rfl, Nat.le_of_ble_eq_true rfl⟩) rfl hl.1 rfl (Nat.le_of_ble_eq_true rfl) dX3_changeEnsemble_57 ⟨Nat.le_of_ble_eq_true rfl, Nat.le_of_ble_eq_true rfl⟩) (fun H locs hw => ?_)
    refine lv_iload hx hb dX3_changeEnsemble_60 (lv_at hl 5 rfl) ?_
    refine lv_istore (lv' := [(7, .int v5), (0, .ref (A a0)), (1, .ref (A a1)), (2, .int x2), (3, .int x3), (4, .int v4), (5, .int v5), (6, .int v6)]) hx hb dX3_changeEnsemble_62 hl (by decide) rfl (fun ls hl => ?_)
    exact J64 fuel v4 v5 z10 hm H locs hw ls (lv_sub hl [1, 2, 4, 5, 0] rfl)
  unfold m_X3_changeEnsemble at hm
  revert hw
  suffices K : ∀ (H : Heap) (locs : List Loc), WD D cy (Fr A G s.heap.size) A s.heap G M H locs → W p l e (headSpec (wm yX3_changeEnsemble cX3_changeEnsemble 8 none) ({ frames := 4, cells := 0, slots := 0, locals := 92 } : Room)).room s m ([.ref (A a0), .ref (A a1), .int x2, .int x3] : List Value).toArray below meth c H locs 0 0 (MQ below (va_Qv (fun (u : Mem) => u = z) (Po D cy A G (Fr A G s.heap.size)) (Fr A G s.heap.size)) ([.ref (A a0), .ref (A a1), .int x2, .int x3] : List Value).toArray s 0 0 (Fr A G s.heap.size)) (F0 m 0 ls []) from fun hw => K _ _ hw
  intro H locs hw
  refine lv_aload_n hx hb dX3_changeEnsemble_0 rfl (lv_at hl 1 rfl) ?_
  obtain ⟨z1, e2, hm⟩ := bd_some hm
  refine ki hw Fr_hi (rV hx hb hml hts hown hK hw (c_X0_lastConfirmed l h1 e2) h1 (by decide) rfl (mkV 0 hts k_ml_RX3_111 k_im_yX0_lastConfirmed k_se_yX0_lastConfirmed k_in_RX0 k_co_yX0_lastConfirmed hd_X0_lastConfirmed ⟨Nat.le_of_ble_eq_true rfl, Nat.le_of_ble_eq_true rfl⟩) rfl hl.1 rfl (Nat.le_of_ble_eq_true rfl) dX3_changeEnsemble_1 ⟨Nat.le_of_ble_eq_true rfl, Nat.le_of_ble_eq_true rfl⟩) (fun H locs hw => ?_)
  refine lv_istore (lv' := [(4, .int z1), (0, .ref (A a0)), (1, .ref (A a1)), (2, .int x2), (3, .int x3)]) hx hb dX3_changeEnsemble_4 hl (by decide) rfl (fun ls hl => ?_)
  refine lv_iload hx hb dX3_changeEnsemble_6 (lv_at hl 0 rfl) ?_
  refine lv_iconst (v := 1) hx hb dX3_changeEnsemble_8 (by decide) ?_
  refine lv_iadd hx hb dX3_changeEnsemble_9 ?_
  refine lv_istore (lv' := [(5, .int (z1 + 1)), (4, .int z1), (0, .ref (A a0)), (1, .ref (A a1)), (2, .int x2), (3, .int x3)]) hx hb dX3_changeEnsemble_10 hl (by decide) rfl (fun ls hl => ?_)
  refine lv_aload_n hx hb dX3_changeEnsemble_12 rfl (lv_at hl 3 rfl) ?_
  refine lv_aload_n hx hb dX3_changeEnsemble_13 rfl (lv_at hl 3 rfl) ?_
  refine ki hw Fr_hi (rV hx hb hml hts hown hK hw (c_X0_lastFragment l h1) h1 (by decide) rfl (mkV 0 hts k_ml_RX3_137 k_im_yX0_lastFragment k_se_yX0_lastFragment k_in_RX0 k_co_yX0_lastFragment hd_X0_lastFragment ⟨Nat.le_of_ble_eq_true rfl, Nat.le_of_ble_eq_true rfl⟩) rfl hl.1 rfl (Nat.le_of_ble_eq_true rfl) dX3_changeEnsemble_14 ⟨Nat.le_of_ble_eq_true rfl, Nat.le_of_ble_eq_true rfl⟩) (fun H locs hw => ?_)
  refine lv_iload_n hx hb dX3_changeEnsemble_17 rfl (lv_at hl 4 rfl) ?_
  obtain ⟨z3, e4, hm⟩ := bd_some hm
  refine ki hw Fr_hi (rV hx hb hml hts hown hK hw (c_X0_nodeAt l h1 e4) h1 (by decide) rfl (mkV 2 hts k_ml_RX3_140 k_im_yX0_nodeAt k_se_yX0_nodeAt k_in_RX0 k_co_yX0_nodeAt hd_X0_nodeAt ⟨Nat.le_of_ble_eq_true rfl, Nat.le_of_ble_eq_true rfl⟩) rfl hl.1 rfl (Nat.le_of_ble_eq_true rfl) dX3_changeEnsemble_18 ⟨Nat.le_of_ble_eq_true rfl, Nat.le_of_ble_eq_true rfl⟩) (fun H locs hw => ?_)
  refine lv_istore (lv' := [(6, .int z3), (5, .int (z1 + 1)), (4, .int z1), (0, .ref (A a0)), (1, .ref (A a1)), (2, .int x2), (3, .int x3)]) hx hb dX3_changeEnsemble_21 hl (by decide) rfl (fun ls hl => ?_)
  refine lv_aload_n hx hb dX3_changeEnsemble_23 rfl (lv_at hl 4 rfl) ?_
  refine lv_aload_n hx hb dX3_changeEnsemble_24 rfl (lv_at hl 4 rfl) ?_
  refine ki hw Fr_hi (rV hx hb hml hts hown hK hw (c_X0_lastFragment l h1) h1 (by decide) rfl (mkV 0 hts k_ml_RX3_137 k_im_yX0_lastFragment k_se_yX0_lastFragment k_in_RX0 k_co_yX0_lastFragment hd_X0_lastFragment ⟨Nat.le_of_ble_eq_true rfl, Nat.le_of_ble_eq_true rfl⟩) rfl hl.1 rfl (Nat.le_of_ble_eq_true rfl) dX3_changeEnsemble_25 ⟨Nat.le_of_ble_eq_true rfl, Nat.le_of_ble_eq_true rfl⟩) (fun H locs hw => ?_)
  obtain ⟨z5, e6, hm⟩ := bd_some hm
  refine ki hw Fr_hi (rV hx hb hml hts hown hK hw (c_X0_startOf l h1 e6) h1 (by decide) rfl (mkV 1 hts k_ml_RX3_144 k_im_yX0_startOf k_se_yX0_startOf k_in_RX0 k_co_yX0_startOf hd_X0_startOf ⟨Nat.le_of_ble_eq_true rfl, Nat.le_of_ble_eq_true rfl⟩) rfl hl.1 rfl (Nat.le_of_ble_eq_true rfl) dX3_changeEnsemble_28 ⟨Nat.le_of_ble_eq_true rfl, Nat.le_of_ble_eq_true rfl⟩) (fun H locs hw => ?_)
  refine lv_iload hx hb dX3_changeEnsemble_31 (lv_at hl 1 rfl) ?_
  refine lv_icmp_eq (tgt := 42) hx hb dX3_changeEnsemble_33 (by decide) (fun hq7 => ?_) (fun hq7 => ?_)
  · have hm := (if_pos hq7).symm.trans hm
    exact J42 z1 (z1 + 1) z3 M hm H locs hw ls (lv_sub hl [3, 4, 5, 6, 2, 1, 0] rfl)
  · have hm := (if_neg hq7).symm.trans hm
    refine lv_aload_n hx hb dX3_changeEnsemble_36 rfl (lv_at hl 4 rfl) ?_
    refine lv_iload hx hb dX3_changeEnsemble_37 (lv_at hl 1 rfl) ?_
    obtain ⟨z20, e21, hm⟩ := bd_some hm
    refine kv hw Fr_hi (rV hx hb hml hts hown hK hw (c_X0_addFragment l h1 e21) h1 (by decide) rfl (mkV 1 hts k_ml_RX3_147 k_im_yX0_addFragment k_se_yX0_addFragment k_in_RX0 k_co_yX0_addFragment hd_X0_addFragment ⟨Nat.le_of_ble_eq_true rfl, Nat.le_of_ble_eq_true rfl⟩) rfl hl.1 rfl (Nat.le_of_ble_eq_true rfl) dX3_changeEnsemble_39 ⟨Nat.le_of_ble_eq_true rfl, Nat.le_of_ble_eq_true rfl⟩) (fun H locs hw => ?_)
    exact J42 z1 (z1 + 1) z3 z20 hm H locs hw ls (lv_sub hl [3, 4, 5, 6, 2, 1, 0] rfl)
set_option maxHeartbeats 4000000 in
set_option maxRecDepth 100000 in
theorem c_X3_fenceLastEnsemble (l : Launch) {D : va_G} {cy : Nat → ClassId} {A : Nat → Nat} {G : Nat → Bool} {M : Mem} {sz : Nat} {a0 : Nat} {a1 : Nat} (h0 : TT G 2 a0) (h1 : TT G 0 a1)  {z : Mem} (hm : m_X3_fenceLastEnsemble a0 a1 M = some z) : Met l yX3_fenceLastEnsemble (wm yX3_fenceLastEnsemble cX3_fenceLastEnsemble 4 none) ({ frames := 2, cells := 0, slots := 0, locals := 45 } : Room) (va_Pc [.ref (A a0), .ref (A a1)] (Pr D cy A G M sz)) (va_Qv (fun (u : Mem) => u = z) (Po D cy A G (Fr A G sz)) (Fr A G sz))  0 0 (Fr A G sz) := by
  refine ofB (Qc := fun sz => va_Qv (fun (u : Mem) => u = z) (Po D cy A G (Fr A G sz)) (Fr A G sz)) (by decide +kernel) (Nat.le_of_ble_eq_true rfl) ?_
  intro p e s m below meth c hx hb hr hts hown hlocks hml hmn hK hw ls hl
  have hl : lv_has ls 4 [(0, .ref (A a0)), (1, .ref (A a1))] := hl
  have J2 : ∀  (n : Nat) (v2 : Int32) (M : Mem), m_X3_fenceLastEnsemble_L2 a0 a1 n v2 M = some z → ∀ (H : Heap) (locs : List Loc), WD D cy (Fr A G s.heap.size) A s.heap G M H locs → ∀ ls : Array Slot, lv_has ls 4 [(0, .ref (A a0)), (1, .ref (A a1)), (2, .int v2)] → W p l e (headSpec (wm yX3_fenceLastEnsemble cX3_fenceLastEnsemble 4 none) ({ frames := 2, cells := 0, slots := 0, locals := 45 } : Room)).room s m ([.ref (A a0), .ref (A a1)] : List Value).toArray below meth c H locs 0 0 (MQ below (va_Qv (fun (u : Mem) => u = z) (Po D cy A G (Fr A G s.heap.size)) (Fr A G s.heap.size)) ([.ref (A a0), .ref (A a1)] : List Value).toArray s 0 0 (Fr A G s.heap.size)) (F0 m 2 ls []) := by
    intro n
    induction n with
    | zero =>
      intro v2 M hm
      cases (show (none : Option Mem) = some z from hm)
    | succ n ih =>
      intro v2 M hm H locs hw ls hl
      have hm := (m_X3_fenceLastEnsemble_L2_s a0 a1 n v2 M).symm.trans hm
      refine lv_iload_n hx hb dX3_fenceLastEnsemble_2 rfl (lv_at hl 2 rfl) ?_
      refine lv_aload_n hx hb dX3_fenceLastEnsemble_3 rfl (lv_at hl 1 rfl) ?_
      refine g0 hx hb hts hown hK hw h1 1 (by decide) (.int (gF M a1 1)) rfl k_fl_RX3_183 (fun _ h => h) dX3_fenceLastEnsemble_4 ?_
      refine lv_icmp_ge (tgt := 49) hx hb dX3_fenceLastEnsemble_7 (by decide) (fun hq1 => ?_) (fun hq1 => ?_)
      · have hm := (if_pos hq1).symm.trans hm
        cases hm
        exact eV hx hb hr hlocks hK hw dX3_fenceLastEnsemble_49
      · have hm := (if_neg hq1).symm.trans hm
        refine lv_aload_n hx hb dX3_fenceLastEnsemble_10 rfl (lv_at hl 0 rfl) ?_
        refine lv_aload_n hx hb dX3_fenceLastEnsemble_11 rfl (lv_at hl 1 rfl) ?_
        refine lv_aload_n hx hb dX3_fenceLastEnsemble_12 rfl (lv_at hl 1 rfl) ?_
        refine ki hw Fr_hi (rV hx hb hml hts hown hK hw (c_X0_lastFragment l h1) h1 (by decide) rfl (mkV 0 hts k_ml_RX3_137 k_im_yX0_lastFragment k_se_yX0_lastFragment k_in_RX0 k_co_yX0_lastFragment hd_X0_lastFragment ⟨Nat.le_of_ble_eq_true rfl, Nat.le_of_ble_eq_true rfl⟩) rfl hl.1 rfl (Nat.le_of_ble_eq_true rfl) dX3_fenceLastEnsemble_13 ⟨Nat.le_of_ble_eq_true rfl, Nat.le_of_ble_eq_true rfl⟩) (fun H locs hw => ?_)
        refine lv_iload_n hx hb dX3_fenceLastEnsemble_16 rfl (lv_at hl 2 rfl) ?_
        obtain ⟨z2, e3, hm⟩ := bd_some hm
        refine ki hw Fr_hi (rV hx hb hml hts hown hK hw (c_X0_nodeAt l h1 e3) h1 (by decide) rfl (mkV 2 hts k_ml_RX3_140 k_im_yX0_nodeAt k_se_yX0_nodeAt k_in_RX0 k_co_yX0_nodeAt hd_X0_nodeAt ⟨Nat.le_of_ble_eq_true rfl, Nat.le_of_ble_eq_true rfl⟩) rfl hl.1 rfl (Nat.le_of_ble_eq_true rfl) dX3_fenceLastEnsemble_17 ⟨Nat.le_of_ble_eq_true rfl, Nat.le_of_ble_eq_true rfl⟩) (fun H locs hw => ?_)
        obtain ⟨z4, e5, hm⟩ := bd_some hm
        refine kq hw Fr_hi (rV hx hb hml hts hown hK hw (c_X3_node l h0 e5) h0 (by decide) rfl (mkV 1 hts k_ml_RX3_37 k_im_yX3_node k_se_yX3_node k_in_RX3 k_co_yX3_node hd_X3_node ⟨Nat.le_of_ble_eq_true rfl, Nat.le_of_ble_eq_true rfl⟩) rfl hl.1 rfl (Nat.le_of_ble_eq_true rfl) dX3_fenceLastEnsemble_20 ⟨Nat.le_of_ble_eq_true rfl, Nat.le_of_ble_eq_true rfl⟩) (fun hr6 H locs hw => ?_) (fun q7 hr6 H locs hw => ?_)
        · have hm := (on_none hr6).symm.trans hm
          refine lv_astore_nN (lv' := [(3, .null), (0, .ref (A a0)), (1, .ref (A a1)), (2, .int v2)]) hx hb dX3_fenceLastEnsemble_23 rfl hl (by decide) rfl (fun ls hl => ?_)
          refine lv_aload_nN hx hb dX3_fenceLastEnsemble_24 rfl (lv_at hl 0 rfl) ?_
          refine lv_ifnullN (tgt := 43) hx hb dX3_fenceLastEnsemble_25 (by decide) ?_
          refine lv_iinc (v := (v2 + 1)) (lv' := [(2, .int (v2 + 1)), (3, .null), (0, .ref (A a0)), (1, .ref (A a1))]) hx hb dX3_fenceLastEnsemble_43 hl (k := 3) rfl rfl (by decide) rfl (fun ls hl => ?_)
          refine lv_goto (tgt := 2) hx hb dX3_fenceLastEnsemble_46 (by decide) ?_
          exact ih (v2 + 1) M hm H locs hw ls (lv_sub hl [2, 3, 0] rfl)
        · have hm := (on_some hr6).symm.trans hm
          have hp8 := t_X3_node h0 (hr6 ▸ e5)
          refine lv_astore_n (lv' := [(3, .ref (A q7)), (0, .ref (A a0)), (1, .ref (A a1)), (2, .int v2)]) hx hb dX3_fenceLastEnsemble_23 rfl hl (by decide) rfl (fun ls hl => ?_)
          refine lv_aload_n hx hb dX3_fenceLastEnsemble_24 rfl (lv_at hl 0 rfl) ?_
          refine lv_ifnull hx hb dX3_fenceLastEnsemble_25 ?_
          refine lv_aload_n hx hb dX3_fenceLastEnsemble_28 rfl (lv_at hl 0 rfl) ?_
          refine g1 hx hb hts hown hK hw hp8 0 (by decide) (.int (gF M q7 0)) rfl k_fl_RX3_68 (fun _ h => h) dX3_fenceLastEnsemble_29 ?_
          refine lv_if_eq (tgt := 43) hx hb dX3_fenceLastEnsemble_32 (by decide) (fun hq9 => ?_) (fun hq9 => ?_)
          · have hm := (if_pos hq9).symm.trans hm
            refine lv_iinc (v := (v2 + 1)) (lv' := [(2, .int (v2 + 1)), (3, .ref (A q7)), (0, .ref (A a0)), (1, .ref (A a1))]) hx hb dX3_fenceLastEnsemble_43 hl (k := 3) rfl rfl (by decide) rfl (fun ls hl => ?_)
            refine lv_goto (tgt := 2) hx hb dX3_fenceLastEnsemble_46 (by decide) ?_
            exact ih (v2 + 1) M hm H locs hw ls (lv_sub hl [2, 3, 0] rfl)
          · have hm := (if_neg hq9).symm.trans hm
            refine lv_aload_n hx hb dX3_fenceLastEnsemble_35 rfl (lv_at hl 0 rfl) ?_
            refine lv_aload_n hx hb dX3_fenceLastEnsemble_36 rfl (lv_at hl 2 rfl) ?_
            refine g0 hx hb hts hown hK hw h1 0 (by decide) (.int (gF M a1 0)) rfl k_fl_RX3_117 (fun _ h => h) dX3_fenceLastEnsemble_37 ?_
            refine kv hw Fr_hi (rV hx hb hml hts hown hK hw (c_X1_fenceFor l hp8 (gF M a1 0)) hp8 (by decide) rfl (mkV 1 hts k_ml_RX3_186 k_im_yX1_fenceFor k_se_yX1_fenceFor k_in_RX1 k_co_yX1_fenceFor hd_X1_fenceFor ⟨Nat.le_of_ble_eq_true rfl, Nat.le_of_ble_eq_true rfl⟩) rfl hl.1 rfl (Nat.le_of_ble_eq_true rfl) dX3_fenceLastEnsemble_40 ⟨Nat.le_of_ble_eq_true rfl, Nat.le_of_ble_eq_true rfl⟩) (fun H locs hw => ?_)
            refine lv_iinc (v := (v2 + 1)) (lv' := [(2, .int (v2 + 1)), (3, .ref (A q7)), (0, .ref (A a0)), (1, .ref (A a1))]) hx hb dX3_fenceLastEnsemble_43 hl (k := 3) rfl rfl (by decide) rfl (fun ls hl => ?_)
            refine lv_goto (tgt := 2) hx hb dX3_fenceLastEnsemble_46 (by decide) ?_
            exact ih (v2 + 1) (m_X1_fenceFor q7 (gF M a1 0) M) hm H locs hw ls (lv_sub hl [2, 3, 0] rfl)
  unfold m_X3_fenceLastEnsemble at hm
  revert hw
  suffices K : ∀ (H : Heap) (locs : List Loc), WD D cy (Fr A G s.heap.size) A s.heap G M H locs → W p l e (headSpec (wm yX3_fenceLastEnsemble cX3_fenceLastEnsemble 4 none) ({ frames := 2, cells := 0, slots := 0, locals := 45 } : Room)).room s m ([.ref (A a0), .ref (A a1)] : List Value).toArray below meth c H locs 0 0 (MQ below (va_Qv (fun (u : Mem) => u = z) (Po D cy A G (Fr A G s.heap.size)) (Fr A G s.heap.size)) ([.ref (A a0), .ref (A a1)] : List Value).toArray s 0 0 (Fr A G s.heap.size)) (F0 m 0 ls []) from fun hw => K _ _ hw
  intro H locs hw
  refine lv_iconst (v := 0) hx hb dX3_fenceLastEnsemble_0 (by decide) ?_
  refine lv_istore_n (lv' := [(2, .int 0), (0, .ref (A a0)), (1, .ref (A a1))]) hx hb dX3_fenceLastEnsemble_1 rfl hl (by decide) rfl (fun ls hl => ?_)
  exact J2 fuel 0 M hm H locs hw ls (lv_sub hl [1, 2, 0] rfl)
set_option maxHeartbeats 4000000 in
set_option maxRecDepth 100000 in
theorem c_X3_someQuorumIsDown (l : Launch) {D : va_G} {cy : Nat → ClassId} {A : Nat → Nat} {G : Nat → Bool} {M : Mem} {sz : Nat} {a0 : Nat} {a1 : Nat} (h0 : TT G 2 a0) (h1 : TT G 0 a1)  {z : Int32} (hm : m_X3_someQuorumIsDown a0 a1 M = some z) : Met l yX3_someQuorumIsDown (wm yX3_someQuorumIsDown cX3_someQuorumIsDown 5 (some .boolean)) ({ frames := 4, cells := 0, slots := 0, locals := 92 } : Room) (va_Pc [.ref (A a0), .ref (A a1)] (Pr D cy A G M sz)) (va_Qi (fun (r' : Int32) (u : Mem) => r' = z ∧ u = M) (Po D cy A G (Fr A G sz)) (Fr A G sz))  0 0 (Fr A G sz) := by
  refine ofB (Qc := fun sz => va_Qi (fun (r' : Int32) (u : Mem) => r' = z ∧ u = M) (Po D cy A G (Fr A G sz)) (Fr A G sz)) (by decide +kernel) (Nat.le_of_ble_eq_true rfl) ?_
  intro p e s m below meth c hx hb hr hts hown hlocks hml hmn hK hw ls hl
  have hl : lv_has ls 5 [(0, .ref (A a0)), (1, .ref (A a1))] := hl
  have J9 : ∀  (n : Nat) (v2 : Int32) (v3 : Int32), m_X3_someQuorumIsDown_L9 a0 a1 M n v2 v3 = some z → ∀ (H : Heap) (locs : List Loc), WD D cy (Fr A G s.heap.size) A s.heap G M H locs → ∀ ls : Array Slot, lv_has ls 5 [(1, .ref (A a1)), (2, .int v2), (3, .int v3)] → W p l e (headSpec (wm yX3_someQuorumIsDown cX3_someQuorumIsDown 5 (some .boolean)) ({ frames := 4, cells := 0, slots := 0, locals := 92 } : Room)).room s m ([.ref (A a0), .ref (A a1)] : List Value).toArray below meth c H locs 0 0 (MQ below (va_Qi (fun (r' : Int32) (u : Mem) => r' = z ∧ u = M) (Po D cy A G (Fr A G s.heap.size)) (Fr A G s.heap.size)) ([.ref (A a0), .ref (A a1)] : List Value).toArray s 0 0 (Fr A G s.heap.size)) (F0 m 9 ls []) := by
    intro n
    induction n with
    | zero =>
      intro v2 v3 hm
      cases (show (none : Option Int32) = some z from hm)
    | succ n ih =>
      intro v2 v3 hm H locs hw ls hl
      have hm := (m_X3_someQuorumIsDown_L9_s a0 a1 M n v2 v3).symm.trans hm
      refine lv_iload_n hx hb dX3_someQuorumIsDown_9 rfl (lv_at hl 2 rfl) ?_
      refine lv_aload_n hx hb dX3_someQuorumIsDown_10 rfl (lv_at hl 0 rfl) ?_
      refine g0 hx hb hts hown hK hw h1 1 (by decide) (.int (gF M a1 1)) rfl k_fl_RX3_183 (fun _ h => h) dX3_someQuorumIsDown_11 ?_
      refine lv_icmp_ge (tgt := 50) hx hb dX3_someQuorumIsDown_14 (by decide) (fun hq3 => ?_) (fun hq3 => ?_)
      · have hm := (if_pos hq3).symm.trans hm
        refine lv_iconst (v := 0) hx hb dX3_someQuorumIsDown_50 (by decide) ?_
        cases hm
        exact eZ (show zb 0 by decide) hx hb hr hlocks hK hw dX3_someQuorumIsDown_51
      · have hm := (if_neg hq3).symm.trans hm
        refine lv_aload_n hx hb dX3_someQuorumIsDown_17 rfl (lv_at hl 0 rfl) ?_
        refine lv_aload_n hx hb dX3_someQuorumIsDown_18 rfl (lv_at hl 0 rfl) ?_
        refine ki hw Fr_hi (rV hx hb hml hts hown hK hw (c_X0_lastFragment l h1) h1 (by decide) rfl (mkV 0 hts k_ml_RX3_137 k_im_yX0_lastFragment k_se_yX0_lastFragment k_in_RX0 k_co_yX0_lastFragment hd_X0_lastFragment ⟨Nat.le_of_ble_eq_true rfl, Nat.le_of_ble_eq_true rfl⟩) rfl hl.1 rfl (Nat.le_of_ble_eq_true rfl) dX3_someQuorumIsDown_19 ⟨Nat.le_of_ble_eq_true rfl, Nat.le_of_ble_eq_true rfl⟩) (fun H locs hw => ?_)
        refine lv_iload_n hx hb dX3_someQuorumIsDown_22 rfl (lv_at hl 2 rfl) ?_
        obtain ⟨z4, e5, hm⟩ := bd_some hm
        refine ki hw Fr_hi (rV hx hb hml hts hown hK hw (c_X0_writeSetMask l h1 e5) h1 (by decide) rfl (mkV 2 hts k_ml_RX3_156 k_im_yX0_writeSetMask k_se_yX0_writeSetMask k_in_RX0 k_co_yX0_writeSetMask hd_X0_writeSetMask ⟨Nat.le_of_ble_eq_true rfl, Nat.le_of_ble_eq_true rfl⟩) rfl hl.1 rfl (Nat.le_of_ble_eq_true rfl) dX3_someQuorumIsDown_23 ⟨Nat.le_of_ble_eq_true rfl, Nat.le_of_ble_eq_true rfl⟩) (fun H locs hw => ?_)
        refine lv_istore (lv' := [(4, .int z4), (1, .ref (A a1)), (2, .int v2), (3, .int v3)]) hx hb dX3_someQuorumIsDown_26 hl (by decide) rfl (fun ls hl => ?_)
        refine lv_iload hx hb dX3_someQuorumIsDown_28 (lv_at hl 0 rfl) ?_
        refine lv_iload_n hx hb dX3_someQuorumIsDown_30 rfl (lv_at hl 2 rfl) ?_
        refine lv_iand hx hb dX3_someQuorumIsDown_31 ?_
        refine ki hw Fr_hi (rS hx hb hml hts hown hK hw (c_J6_bitCount_0f7a4 l (z4 &&& v2)) (mkS 1 hts k_ml_RX3_192 k_st_yJ6_bitCount_0f7a4 k_in_RJ6 k_co_yJ6_bitCount_0f7a4 hd_J6_bitCount_0f7a4 ⟨Nat.le_of_ble_eq_true rfl, Nat.le_of_ble_eq_true rfl⟩) rfl hl.1 rfl (Nat.le_of_ble_eq_true rfl) dX3_someQuorumIsDown_32 ⟨Nat.le_of_ble_eq_true rfl, Nat.le_of_ble_eq_true rfl⟩) (fun H locs hw => ?_)
        refine lv_aload_n hx hb dX3_someQuorumIsDown_35 rfl (lv_at hl 1 rfl) ?_
        refine g0 hx hb hts hown hK hw h1 3 (by decide) (.int (gF M a1 3)) rfl k_fl_RX3_197 (fun _ h => h) dX3_someQuorumIsDown_36 ?_
        refine lv_icmp_lt (tgt := 44) hx hb dX3_someQuorumIsDown_39 (by decide) (fun hq6 => ?_) (fun hq6 => ?_)
        · have hm := (if_pos hq6).symm.trans hm
          refine lv_iinc (v := (v3 + 1)) (lv' := [(3, .int (v3 + 1)), (4, .int z4), (1, .ref (A a1)), (2, .int v2)]) hx hb dX3_someQuorumIsDown_44 hl (k := 3) rfl rfl (by decide) rfl (fun ls hl => ?_)
          refine lv_goto (tgt := 9) hx hb dX3_someQuorumIsDown_47 (by decide) ?_
          exact ih v2 (v3 + 1) hm H locs hw ls (lv_sub hl [2, 3, 0] rfl)
        · have hm := (if_neg hq6).symm.trans hm
          refine lv_iconst (v := 1) hx hb dX3_someQuorumIsDown_42 (by decide) ?_
          cases hm
          exact eZ (show zb 1 by decide) hx hb hr hlocks hK hw dX3_someQuorumIsDown_43
  unfold m_X3_someQuorumIsDown at hm
  revert hw
  suffices K : ∀ (H : Heap) (locs : List Loc), WD D cy (Fr A G s.heap.size) A s.heap G M H locs → W p l e (headSpec (wm yX3_someQuorumIsDown cX3_someQuorumIsDown 5 (some .boolean)) ({ frames := 4, cells := 0, slots := 0, locals := 92 } : Room)).room s m ([.ref (A a0), .ref (A a1)] : List Value).toArray below meth c H locs 0 0 (MQ below (va_Qi (fun (r' : Int32) (u : Mem) => r' = z ∧ u = M) (Po D cy A G (Fr A G s.heap.size)) (Fr A G s.heap.size)) ([.ref (A a0), .ref (A a1)] : List Value).toArray s 0 0 (Fr A G s.heap.size)) (F0 m 0 ls []) from fun hw => K _ _ hw
  intro H locs hw
  refine lv_aload_n hx hb dX3_someQuorumIsDown_0 rfl (lv_at hl 0 rfl) ?_
  obtain ⟨z1, e2, hm⟩ := bd_some hm
  refine ki hw Fr_hi (rV hx hb hml hts hown hK hw (c_X3_upMask l h0 e2) h0 (by decide) rfl (mkV 0 hts k_ml_RX3_189 k_im_yX3_upMask k_se_yX3_upMask k_in_RX3 k_co_yX3_upMask hd_X3_upMask ⟨Nat.le_of_ble_eq_true rfl, Nat.le_of_ble_eq_true rfl⟩) rfl hl.1 rfl (Nat.le_of_ble_eq_true rfl) dX3_someQuorumIsDown_1 ⟨Nat.le_of_ble_eq_true rfl, Nat.le_of_ble_eq_true rfl⟩) (fun H locs hw => ?_)
  refine lv_iconst (v := (-1)) hx hb dX3_someQuorumIsDown_4 (by decide) ?_
  refine lv_ixor hx hb dX3_someQuorumIsDown_5 ?_
  refine lv_istore_n (lv' := [(2, .int (z1 ^^^ (-1))), (0, .ref (A a0)), (1, .ref (A a1))]) hx hb dX3_someQuorumIsDown_6 rfl hl (by decide) rfl (fun ls hl => ?_)
  refine lv_iconst (v := 0) hx hb dX3_someQuorumIsDown_7 (by decide) ?_
  refine lv_istore_n (lv' := [(3, .int 0), (2, .int (z1 ^^^ (-1))), (0, .ref (A a0)), (1, .ref (A a1))]) hx hb dX3_someQuorumIsDown_8 rfl hl (by decide) rfl (fun ls hl => ?_)
  exact J9 fuel (z1 ^^^ (-1)) 0 hm H locs hw ls (lv_sub hl [3, 1, 0] rfl)
set_option maxHeartbeats 4000000 in
set_option maxRecDepth 100000 in
theorem c_X3_lastKnownConfirmed (l : Launch) {D : va_G} {cy : Nat → ClassId} {A : Nat → Nat} {G : Nat → Bool} {M : Mem} {sz : Nat} {a0 : Nat} {a1 : Nat} (h0 : TT G 2 a0) (h1 : TT G 0 a1)  {z : Int32} (hm : m_X3_lastKnownConfirmed a0 a1 M = some z) : Met l yX3_lastKnownConfirmed (wm yX3_lastKnownConfirmed cX3_lastKnownConfirmed 5 (some .int)) ({ frames := 3, cells := 0, slots := 0, locals := 69 } : Room) (va_Pc [.ref (A a0), .ref (A a1)] (Pr D cy A G M sz)) (va_Qi (fun (r' : Int32) (u : Mem) => r' = z ∧ u = M) (Po D cy A G (Fr A G sz)) (Fr A G sz))  0 0 (Fr A G sz) := by
  refine ofB (Qc := fun sz => va_Qi (fun (r' : Int32) (u : Mem) => r' = z ∧ u = M) (Po D cy A G (Fr A G sz)) (Fr A G sz)) (by decide +kernel) (Nat.le_of_ble_eq_true rfl) ?_
  intro p e s m below meth c hx hb hr hts hown hlocks hml hmn hK hw ls hl
  have hl : lv_has ls 5 [(0, .ref (A a0)), (1, .ref (A a1))] := hl
  have J13 : ∀  (n : Nat) (v2 : Int32) (v3 : Int32), m_X3_lastKnownConfirmed_L13 a0 a1 M n v2 v3 = some z → ∀ (H : Heap) (locs : List Loc), WD D cy (Fr A G s.heap.size) A s.heap G M H locs → ∀ ls : Array Slot, lv_has ls 5 [(0, .ref (A a0)), (1, .ref (A a1)), (2, .int v2), (3, .int v3)] → W p l e (headSpec (wm yX3_lastKnownConfirmed cX3_lastKnownConfirmed 5 (some .int)) ({ frames := 3, cells := 0, slots := 0, locals := 69 } : Room)).room s m ([.ref (A a0), .ref (A a1)] : List Value).toArray below meth c H locs 0 0 (MQ below (va_Qi (fun (r' : Int32) (u : Mem) => r' = z ∧ u = M) (Po D cy A G (Fr A G s.heap.size)) (Fr A G s.heap.size)) ([.ref (A a0), .ref (A a1)] : List Value).toArray s 0 0 (Fr A G s.heap.size)) (F0 m 13 ls []) := by
    intro n
    induction n with
    | zero =>
      intro v2 v3 hm
      cases (show (none : Option Int32) = some z from hm)
    | succ n ih =>
      intro v2 v3 hm H locs hw ls hl
      have hm := (m_X3_lastKnownConfirmed_L13_s a0 a1 M n v2 v3).symm.trans hm
      refine lv_iload_n hx hb dX3_lastKnownConfirmed_13 rfl (lv_at hl 3 rfl) ?_
      refine lv_aload_n hx hb dX3_lastKnownConfirmed_14 rfl (lv_at hl 1 rfl) ?_
      refine g0 hx hb hts hown hK hw h1 1 (by decide) (.int (gF M a1 1)) rfl k_fl_RX3_183 (fun _ h => h) dX3_lastKnownConfirmed_15 ?_
      refine lv_icmp_ge (tgt := 69) hx hb dX3_lastKnownConfirmed_18 (by decide) (fun hq3 => ?_) (fun hq3 => ?_)
      · have hm := (if_pos hq3).symm.trans hm
        refine lv_iload_n hx hb dX3_lastKnownConfirmed_69 rfl (lv_at hl 2 rfl) ?_
        cases hm
        exact eI hx hb hr hlocks hK hw dX3_lastKnownConfirmed_70
      · have hm := (if_neg hq3).symm.trans hm
        refine lv_aload_n hx hb dX3_lastKnownConfirmed_21 rfl (lv_at hl 0 rfl) ?_
        refine lv_aload_n hx hb dX3_lastKnownConfirmed_22 rfl (lv_at hl 1 rfl) ?_
        refine lv_aload_n hx hb dX3_lastKnownConfirmed_23 rfl (lv_at hl 1 rfl) ?_
        refine ki hw Fr_hi (rV hx hb hml hts hown hK hw (c_X0_lastFragment l h1) h1 (by decide) rfl (mkV 0 hts k_ml_RX3_137 k_im_yX0_lastFragment k_se_yX0_lastFragment k_in_RX0 k_co_yX0_lastFragment hd_X0_lastFragment ⟨Nat.le_of_ble_eq_true rfl, Nat.le_of_ble_eq_true rfl⟩) rfl hl.1 rfl (Nat.le_of_ble_eq_true rfl) dX3_lastKnownConfirmed_24 ⟨Nat.le_of_ble_eq_true rfl, Nat.le_of_ble_eq_true rfl⟩) (fun H locs hw => ?_)
        refine lv_iload_n hx hb dX3_lastKnownConfirmed_27 rfl (lv_at hl 3 rfl) ?_
        obtain ⟨z4, e5, hm⟩ := bd_some hm
        refine ki hw Fr_hi (rV hx hb hml hts hown hK hw (c_X0_nodeAt l h1 e5) h1 (by decide) rfl (mkV 2 hts k_ml_RX3_140 k_im_yX0_nodeAt k_se_yX0_nodeAt k_in_RX0 k_co_yX0_nodeAt hd_X0_nodeAt ⟨Nat.le_of_ble_eq_true rfl, Nat.le_of_ble_eq_true rfl⟩) rfl hl.1 rfl (Nat.le_of_ble_eq_true rfl) dX3_lastKnownConfirmed_28 ⟨Nat.le_of_ble_eq_true rfl, Nat.le_of_ble_eq_true rfl⟩) (fun H locs hw => ?_)
        obtain ⟨z6, e7, hm⟩ := bd_some hm
        refine kq hw Fr_hi (rV hx hb hml hts hown hK hw (c_X3_node l h0 e7) h0 (by decide) rfl (mkV 1 hts k_ml_RX3_37 k_im_yX3_node k_se_yX3_node k_in_RX3 k_co_yX3_node hd_X3_node ⟨Nat.le_of_ble_eq_true rfl, Nat.le_of_ble_eq_true rfl⟩) rfl hl.1 rfl (Nat.le_of_ble_eq_true rfl) dX3_lastKnownConfirmed_31 ⟨Nat.le_of_ble_eq_true rfl, Nat.le_of_ble_eq_true rfl⟩) (fun hr8 H locs hw => ?_) (fun q9 hr8 H locs hw => ?_)
        · have hm := (on_none hr8).symm.trans hm
          refine lv_astoreN (lv' := [(4, .null), (0, .ref (A a0)), (1, .ref (A a1)), (2, .int v2), (3, .int v3)]) hx hb dX3_lastKnownConfirmed_34 hl (by decide) rfl (fun ls hl => ?_)
          refine lv_aloadN hx hb dX3_lastKnownConfirmed_36 (lv_at hl 0 rfl) ?_
          refine lv_ifnullN (tgt := 63) hx hb dX3_lastKnownConfirmed_38 (by decide) ?_
          refine lv_iinc (v := (v3 + 1)) (lv' := [(3, .int (v3 + 1)), (4, .null), (0, .ref (A a0)), (1, .ref (A a1)), (2, .int v2)]) hx hb dX3_lastKnownConfirmed_63 hl (k := 4) rfl rfl (by decide) rfl (fun ls hl => ?_)
          refine lv_goto (tgt := 13) hx hb dX3_lastKnownConfirmed_66 (by decide) ?_
          exact ih v2 (v3 + 1) hm H locs hw ls (lv_sub hl [2, 3, 4, 0] rfl)
        · have hm := (on_some hr8).symm.trans hm
          have hp10 := t_X3_node h0 (hr8 ▸ e7)
          refine lv_astore (lv' := [(4, .ref (A q9)), (0, .ref (A a0)), (1, .ref (A a1)), (2, .int v2), (3, .int v3)]) hx hb dX3_lastKnownConfirmed_34 hl (by decide) rfl (fun ls hl => ?_)
          refine lv_aload hx hb dX3_lastKnownConfirmed_36 (lv_at hl 0 rfl) ?_
          refine lv_ifnull hx hb dX3_lastKnownConfirmed_38 ?_
          refine lv_aload hx hb dX3_lastKnownConfirmed_41 (lv_at hl 0 rfl) ?_
          refine g1 hx hb hts hown hK hw hp10 0 (by decide) (.int (gF M q9 0)) rfl k_fl_RX3_68 (fun _ h => h) dX3_lastKnownConfirmed_43 ?_
          refine lv_if_eq (tgt := 63) hx hb dX3_lastKnownConfirmed_46 (by decide) (fun hq11 => ?_) (fun hq11 => ?_)
          · have hm := (if_pos hq11).symm.trans hm
            refine lv_iinc (v := (v3 + 1)) (lv' := [(3, .int (v3 + 1)), (4, .ref (A q9)), (0, .ref (A a0)), (1, .ref (A a1)), (2, .int v2)]) hx hb dX3_lastKnownConfirmed_63 hl (k := 4) rfl rfl (by decide) rfl (fun ls hl => ?_)
            refine lv_goto (tgt := 13) hx hb dX3_lastKnownConfirmed_66 (by decide) ?_
            exact ih v2 (v3 + 1) hm H locs hw ls (lv_sub hl [2, 3, 4, 0] rfl)
          · have hm := (if_neg hq11).symm.trans hm
            refine lv_iload_n hx hb dX3_lastKnownConfirmed_49 rfl (lv_at hl 3 rfl) ?_
            refine lv_aload hx hb dX3_lastKnownConfirmed_50 (lv_at hl 0 rfl) ?_
            refine lv_aload_n hx hb dX3_lastKnownConfirmed_52 rfl (lv_at hl 2 rfl) ?_
            refine g0 hx hb hts hown hK hw h1 0 (by decide) (.int (gF M a1 0)) rfl k_fl_RX3_117 (fun _ h => h) dX3_lastKnownConfirmed_53 ?_
            obtain ⟨z12, e13, hm⟩ := bd_some hm
            refine ki hw Fr_hi (rV hx hb hml hts hown hK hw (c_X1_greatestConfirmed l hp10 e13) hp10 (by decide) rfl (mkV 1 hts k_ml_RX3_200 k_im_yX1_greatestConfirmed k_se_yX1_greatestConfirmed k_in_RX1 k_co_yX1_greatestConfirmed hd_X1_greatestConfirmed ⟨Nat.le_of_ble_eq_true rfl, Nat.le_of_ble_eq_true rfl⟩) rfl hl.1 rfl (Nat.le_of_ble_eq_true rfl) dX3_lastKnownConfirmed_56 ⟨Nat.le_of_ble_eq_true rfl, Nat.le_of_ble_eq_true rfl⟩) (fun H locs hw => ?_)
            refine mxI hx hb (hml.trans hl.1.symm) hts hown k_ml_RX3_203 (Nat.le_of_ble_eq_true rfl) (Nat.le_of_ble_eq_true rfl) (Nat.le_of_ble_eq_true rfl) (Nat.le_of_ble_eq_true rfl) dX3_lastKnownConfirmed_59 ?_
            refine lv_istore_n (lv' := [(2, .int (if v2 < z12 then z12 else v2)), (4, .ref (A q9)), (0, .ref (A a0)), (1, .ref (A a1)), (3, .int v3)]) hx hb dX3_lastKnownConfirmed_62 rfl hl (by decide) rfl (fun ls hl => ?_)
            refine lv_iinc (v := (v3 + 1)) (lv' := [(3, .int (v3 + 1)), (2, .int (if v2 < z12 then z12 else v2)), (4, .ref (A q9)), (0, .ref (A a0)), (1, .ref (A a1))]) hx hb dX3_lastKnownConfirmed_63 hl (k := 4) rfl rfl (by decide) rfl (fun ls hl => ?_)
            refine lv_goto (tgt := 13) hx hb dX3_lastKnownConfirmed_66 (by decide) ?_
            exact ih (if v2 < z12 then z12 else v2) (v3 + 1) hm H locs hw ls (lv_sub hl [3, 4, 1, 0] rfl)
  unfold m_X3_lastKnownConfirmed at hm
  revert hw
  suffices K : ∀ (H : Heap) (locs : List Loc), WD D cy (Fr A G s.heap.size) A s.heap G M H locs → W p l e (headSpec (wm yX3_lastKnownConfirmed cX3_lastKnownConfirmed 5 (some .int)) ({ frames := 3, cells := 0, slots := 0, locals := 69 } : Room)).room s m ([.ref (A a0), .ref (A a1)] : List Value).toArray below meth c H locs 0 0 (MQ below (va_Qi (fun (r' : Int32) (u : Mem) => r' = z ∧ u = M) (Po D cy A G (Fr A G s.heap.size)) (Fr A G s.heap.size)) ([.ref (A a0), .ref (A a1)] : List Value).toArray s 0 0 (Fr A G s.heap.size)) (F0 m 0 ls []) from fun hw => K _ _ hw
  intro H locs hw
  refine lv_aload_n hx hb dX3_lastKnownConfirmed_0 rfl (lv_at hl 1 rfl) ?_
  refine lv_aload_n hx hb dX3_lastKnownConfirmed_1 rfl (lv_at hl 1 rfl) ?_
  refine ki hw Fr_hi (rV hx hb hml hts hown hK hw (c_X0_lastFragment l h1) h1 (by decide) rfl (mkV 0 hts k_ml_RX3_137 k_im_yX0_lastFragment k_se_yX0_lastFragment k_in_RX0 k_co_yX0_lastFragment hd_X0_lastFragment ⟨Nat.le_of_ble_eq_true rfl, Nat.le_of_ble_eq_true rfl⟩) rfl hl.1 rfl (Nat.le_of_ble_eq_true rfl) dX3_lastKnownConfirmed_2 ⟨Nat.le_of_ble_eq_true rfl, Nat.le_of_ble_eq_true rfl⟩) (fun H locs hw => ?_)
  obtain ⟨z1, e2, hm⟩ := bd_some hm
  refine ki hw Fr_hi (rV hx hb hml hts hown hK hw (c_X0_startOf l h1 e2) h1 (by decide) rfl (mkV 1 hts k_ml_RX3_144 k_im_yX0_startOf k_se_yX0_startOf k_in_RX0 k_co_yX0_startOf hd_X0_startOf ⟨Nat.le_of_ble_eq_true rfl, Nat.le_of_ble_eq_true rfl⟩) rfl hl.1 rfl (Nat.le_of_ble_eq_true rfl) dX3_lastKnownConfirmed_5 ⟨Nat.le_of_ble_eq_true rfl, Nat.le_of_ble_eq_true rfl⟩) (fun H locs hw => ?_)
  refine lv_iconst (v := 1) hx hb dX3_lastKnownConfirmed_8 (by decide) ?_
  refine lv_isub hx hb dX3_lastKnownConfirmed_9 ?_
  refine lv_istore_n (lv' := [(2, .int (z1 - 1)), (0, .ref (A a0)), (1, .ref (A a1))]) hx hb dX3_lastKnownConfirmed_10 rfl hl (by decide) rfl (fun ls hl => ?_)
  refine lv_iconst (v := 0) hx hb dX3_lastKnownConfirmed_11 (by decide) ?_
  refine lv_istore_n (lv' := [(3, .int 0), (2, .int (z1 - 1)), (0, .ref (A a0)), (1, .ref (A a1))]) hx hb dX3_lastKnownConfirmed_12 rfl hl (by decide) rfl (fun ls hl => ?_)
  exact J13 fuel (z1 - 1) 0 hm H locs hw ls (lv_sub hl [2, 3, 1, 0] rfl)
set_option maxHeartbeats 4000000 in
set_option maxRecDepth 100000 in
theorem c_X3_firstCopy (l : Launch) {D : va_G} {cy : Nat → ClassId} {A : Nat → Nat} {G : Nat → Bool} {M : Mem} {sz : Nat} {a0 : Nat} {a1 : Nat} {x2 : Int32} (h0 : TT G 2 a0) (h1 : TT G 0 a1)  {z : Int32} (hm : m_X3_firstCopy a0 a1 x2 M = some z) : Met l yX3_firstCopy (wm yX3_firstCopy cX3_firstCopy 6 (some .int)) ({ frames := 3, cells := 0, slots := 0, locals := 68 } : Room) (va_Pc [.ref (A a0), .ref (A a1), .int x2] (Pr D cy A G M sz)) (va_Qi (fun (r' : Int32) (u : Mem) => r' = z ∧ u = M) (Po D cy A G (Fr A G sz)) (Fr A G sz))  0 0 (Fr A G sz) := by
  refine ofB (Qc := fun sz => va_Qi (fun (r' : Int32) (u : Mem) => r' = z ∧ u = M) (Po D cy A G (Fr A G sz)) (Fr A G sz)) (by decide +kernel) (Nat.le_of_ble_eq_true rfl) ?_
  intro p e s m below meth c hx hb hr hts hown hlocks hml hmn hK hw ls hl
  have hl : lv_has ls 6 [(0, .ref (A a0)), (1, .ref (A a1)), (2, .int x2)] := hl
  have J9 : ∀  (n : Nat) (v3 : Int32) (v4 : Int32), m_X3_firstCopy_L9 a0 a1 x2 M n v3 v4 = some z → ∀ (H : Heap) (locs : List Loc), WD D cy (Fr A G s.heap.size) A s.heap G M H locs → ∀ ls : Array Slot, lv_has ls 6 [(0, .ref (A a0)), (1, .ref (A a1)), (2, .int x2), (3, .int v3), (4, .int v4)] → W p l e (headSpec (wm yX3_firstCopy cX3_firstCopy 6 (some .int)) ({ frames := 3, cells := 0, slots := 0, locals := 68 } : Room)).room s m ([.ref (A a0), .ref (A a1), .int x2] : List Value).toArray below meth c H locs 0 0 (MQ below (va_Qi (fun (r' : Int32) (u : Mem) => r' = z ∧ u = M) (Po D cy A G (Fr A G s.heap.size)) (Fr A G s.heap.size)) ([.ref (A a0), .ref (A a1), .int x2] : List Value).toArray s 0 0 (Fr A G s.heap.size)) (F0 m 9 ls []) := by
    intro n
    induction n with
    | zero =>
      intro v3 v4 hm
      cases (show (none : Option Int32) = some z from hm)
    | succ n ih =>
      intro v3 v4 hm H locs hw ls hl
      have hm := (m_X3_firstCopy_L9_s a0 a1 x2 M n v3 v4).symm.trans hm
      refine lv_iload hx hb dX3_firstCopy_9 (lv_at hl 4 rfl) ?_
      refine lv_aload_n hx hb dX3_firstCopy_11 rfl (lv_at hl 1 rfl) ?_
      refine g0 hx hb hts hown hK hw h1 2 (by decide) (.int (gF M a1 2)) rfl k_fl_RX3_127 (fun _ h => h) dX3_firstCopy_12 ?_
      refine lv_icmp_ge (tgt := 75) hx hb dX3_firstCopy_15 (by decide) (fun hq3 => ?_) (fun hq3 => ?_)
      · have hm := (if_pos hq3).symm.trans hm
        refine lv_iconst (v := (-1)) hx hb dX3_firstCopy_75 (by decide) ?_
        cases hm
        exact eI hx hb hr hlocks hK hw dX3_firstCopy_76
      · have hm := (if_neg hq3).symm.trans hm
        refine lv_aload_n hx hb dX3_firstCopy_18 rfl (lv_at hl 0 rfl) ?_
        refine lv_aload_n hx hb dX3_firstCopy_19 rfl (lv_at hl 1 rfl) ?_
        refine lv_iload_n hx hb dX3_firstCopy_20 rfl (lv_at hl 3 rfl) ?_
        refine lv_iload_n hx hb dX3_firstCopy_21 rfl (lv_at hl 2 rfl) ?_
        refine lv_iload hx hb dX3_firstCopy_22 (lv_at hl 4 rfl) ?_
        obtain ⟨z4, e5, hm⟩ := bd_some hm
        refine ki hw Fr_hi (rV hx hb hml hts hown hK hw (c_X0_writeSetNode l h1 e5) h1 (by decide) rfl (mkV 3 hts k_ml_RX3_130 k_im_yX0_writeSetNode k_se_yX0_writeSetNode k_in_RX0 k_co_yX0_writeSetNode hd_X0_writeSetNode ⟨Nat.le_of_ble_eq_true rfl, Nat.le_of_ble_eq_true rfl⟩) rfl hl.1 rfl (Nat.le_of_ble_eq_true rfl) dX3_firstCopy_24 ⟨Nat.le_of_ble_eq_true rfl, Nat.le_of_ble_eq_true rfl⟩) (fun H locs hw => ?_)
        obtain ⟨z6, e7, hm⟩ := bd_some hm
        refine kq hw Fr_hi (rV hx hb hml hts hown hK hw (c_X3_node l h0 e7) h0 (by decide) rfl (mkV 1 hts k_ml_RX3_37 k_im_yX3_node k_se_yX3_node k_in_RX3 k_co_yX3_node hd_X3_node ⟨Nat.le_of_ble_eq_true rfl, Nat.le_of_ble_eq_true rfl⟩) rfl hl.1 rfl (Nat.le_of_ble_eq_true rfl) dX3_firstCopy_27 ⟨Nat.le_of_ble_eq_true rfl, Nat.le_of_ble_eq_true rfl⟩) (fun hr8 H locs hw => ?_) (fun q9 hr8 H locs hw => ?_)
        · have hm := (on_none hr8).symm.trans hm
          refine lv_astoreN (lv' := [(5, .null), (0, .ref (A a0)), (1, .ref (A a1)), (2, .int x2), (3, .int v3), (4, .int v4)]) hx hb dX3_firstCopy_30 hl (by decide) rfl (fun ls hl => ?_)
          refine lv_aloadN hx hb dX3_firstCopy_32 (lv_at hl 0 rfl) ?_
          refine lv_ifnullN (tgt := 69) hx hb dX3_firstCopy_34 (by decide) ?_
          refine lv_iinc (v := (v4 + 1)) (lv' := [(4, .int (v4 + 1)), (5, .null), (0, .ref (A a0)), (1, .ref (A a1)), (2, .int x2), (3, .int v3)]) hx hb dX3_firstCopy_69 hl (k := 5) rfl rfl (by decide) rfl (fun ls hl => ?_)
          refine lv_goto (tgt := 9) hx hb dX3_firstCopy_72 (by decide) ?_
          exact ih v3 (v4 + 1) hm H locs hw ls (lv_sub hl [2, 3, 4, 5, 0] rfl)
        · have hm := (on_some hr8).symm.trans hm
          have hp10 := t_X3_node h0 (hr8 ▸ e7)
          refine lv_astore (lv' := [(5, .ref (A q9)), (0, .ref (A a0)), (1, .ref (A a1)), (2, .int x2), (3, .int v3), (4, .int v4)]) hx hb dX3_firstCopy_30 hl (by decide) rfl (fun ls hl => ?_)
          refine lv_aload hx hb dX3_firstCopy_32 (lv_at hl 0 rfl) ?_
          refine lv_ifnull hx hb dX3_firstCopy_34 ?_
          refine lv_aload hx hb dX3_firstCopy_37 (lv_at hl 0 rfl) ?_
          refine g1 hx hb hts hown hK hw hp10 0 (by decide) (.int (gF M q9 0)) rfl k_fl_RX3_68 (fun _ h => h) dX3_firstCopy_39 ?_
          refine lv_if_eq (tgt := 69) hx hb dX3_firstCopy_42 (by decide) (fun hq11 => ?_) (fun hq11 => ?_)
          · have hm := (if_pos hq11).symm.trans hm
            refine lv_iinc (v := (v4 + 1)) (lv' := [(4, .int (v4 + 1)), (5, .ref (A q9)), (0, .ref (A a0)), (1, .ref (A a1)), (2, .int x2), (3, .int v3)]) hx hb dX3_firstCopy_69 hl (k := 5) rfl rfl (by decide) rfl (fun ls hl => ?_)
            refine lv_goto (tgt := 9) hx hb dX3_firstCopy_72 (by decide) ?_
            exact ih v3 (v4 + 1) hm H locs hw ls (lv_sub hl [2, 3, 4, 5, 0] rfl)
          · have hm := (if_neg hq11).symm.trans hm
            refine lv_aload hx hb dX3_firstCopy_45 (lv_at hl 0 rfl) ?_
            refine lv_aload_n hx hb dX3_firstCopy_47 rfl (lv_at hl 2 rfl) ?_
            refine g0 hx hb hts hown hK hw h1 0 (by decide) (.int (gF M a1 0)) rfl k_fl_RX3_117 (fun _ h => h) dX3_firstCopy_48 ?_
            refine lv_iload_n hx hb dX3_firstCopy_51 rfl (lv_at hl 3 rfl) ?_
            obtain ⟨z12, e13, hm⟩ := bd_some hm
            refine ki hw Fr_hi (rV hx hb hml hts hown hK hw (c_X1_holds l hp10 e13) hp10 (by decide) rfl (mkV 2 hts k_ml_RX3_217 k_im_yX1_holds k_se_yX1_holds k_in_RX1 k_co_yX1_holds hd_X1_holds ⟨Nat.le_of_ble_eq_true rfl, Nat.le_of_ble_eq_true rfl⟩) rfl hl.1 rfl (Nat.le_of_ble_eq_true rfl) dX3_firstCopy_52 ⟨Nat.le_of_ble_eq_true rfl, Nat.le_of_ble_eq_true rfl⟩) (fun H locs hw => ?_)
            refine lv_if_eq (tgt := 69) hx hb dX3_firstCopy_55 (by decide) (fun hq14 => ?_) (fun hq14 => ?_)
            · have hm := (if_pos hq14).symm.trans hm
              refine lv_iinc (v := (v4 + 1)) (lv' := [(4, .int (v4 + 1)), (5, .ref (A q9)), (0, .ref (A a0)), (1, .ref (A a1)), (2, .int x2), (3, .int v3)]) hx hb dX3_firstCopy_69 hl (k := 5) rfl rfl (by decide) rfl (fun ls hl => ?_)
              refine lv_goto (tgt := 9) hx hb dX3_firstCopy_72 (by decide) ?_
              exact ih v3 (v4 + 1) hm H locs hw ls (lv_sub hl [2, 3, 4, 5, 0] rfl)
            · have hm := (if_neg hq14).symm.trans hm
              refine lv_aload hx hb dX3_firstCopy_58 (lv_at hl 0 rfl) ?_
              refine lv_aload_n hx hb dX3_firstCopy_60 rfl (lv_at hl 2 rfl) ?_
              refine g0 hx hb hts hown hK hw h1 0 (by decide) (.int (gF M a1 0)) rfl k_fl_RX3_117 (fun _ h => h) dX3_firstCopy_61 ?_
              refine lv_iload_n hx hb dX3_firstCopy_64 rfl (lv_at hl 3 rfl) ?_
              obtain ⟨z15, e16, hm⟩ := bd_some hm
              refine ki hw Fr_hi (rV hx hb hml hts hown hK hw (c_X1_storedParcel l hp10 e16) hp10 (by decide) rfl (mkV 2 hts k_ml_RX3_220 k_im_yX1_storedParcel k_se_yX1_storedParcel k_in_RX1 k_co_yX1_storedParcel hd_X1_storedParcel ⟨Nat.le_of_ble_eq_true rfl, Nat.le_of_ble_eq_true rfl⟩) rfl hl.1 rfl (Nat.le_of_ble_eq_true rfl) dX3_firstCopy_65 ⟨Nat.le_of_ble_eq_true rfl, Nat.le_of_ble_eq_true rfl⟩) (fun H locs hw => ?_)
              cases hm
              exact eI hx hb hr hlocks hK hw dX3_firstCopy_68
  unfold m_X3_firstCopy at hm
  revert hw
  suffices K : ∀ (H : Heap) (locs : List Loc), WD D cy (Fr A G s.heap.size) A s.heap G M H locs → W p l e (headSpec (wm yX3_firstCopy cX3_firstCopy 6 (some .int)) ({ frames := 3, cells := 0, slots := 0, locals := 68 } : Room)).room s m ([.ref (A a0), .ref (A a1), .int x2] : List Value).toArray below meth c H locs 0 0 (MQ below (va_Qi (fun (r' : Int32) (u : Mem) => r' = z ∧ u = M) (Po D cy A G (Fr A G s.heap.size)) (Fr A G s.heap.size)) ([.ref (A a0), .ref (A a1), .int x2] : List Value).toArray s 0 0 (Fr A G s.heap.size)) (F0 m 0 ls []) from fun hw => K _ _ hw
  intro H locs hw
  refine lv_aload_n hx hb dX3_firstCopy_0 rfl (lv_at hl 1 rfl) ?_
  refine lv_iload_n hx hb dX3_firstCopy_1 rfl (lv_at hl 2 rfl) ?_
  obtain ⟨z1, e2, hm⟩ := bd_some hm
  refine ki hw Fr_hi (rV hx hb hml hts hown hK hw (c_X0_fragmentOf l h1 e2) h1 (by decide) rfl (mkV 1 hts k_ml_RX3_124 k_im_yX0_fragmentOf k_se_yX0_fragmentOf k_in_RX0 k_co_yX0_fragmentOf hd_X0_fragmentOf ⟨Nat.le_of_ble_eq_true rfl, Nat.le_of_ble_eq_true rfl⟩) rfl hl.1 rfl (Nat.le_of_ble_eq_true rfl) dX3_firstCopy_2 ⟨Nat.le_of_ble_eq_true rfl, Nat.le_of_ble_eq_true rfl⟩) (fun H locs hw => ?_)
  refine lv_istore_n (lv' := [(3, .int z1), (0, .ref (A a0)), (1, .ref (A a1)), (2, .int x2)]) hx hb dX3_firstCopy_5 rfl hl (by decide) rfl (fun ls hl => ?_)
  refine lv_iconst (v := 0) hx hb dX3_firstCopy_6 (by decide) ?_
  refine lv_istore (lv' := [(4, .int 0), (3, .int z1), (0, .ref (A a0)), (1, .ref (A a1)), (2, .int x2)]) hx hb dX3_firstCopy_7 hl (by decide) rfl (fun ls hl => ?_)
  exact J9 fuel z1 0 hm H locs hw ls (lv_sub hl [2, 3, 4, 1, 0] rfl)
set_option maxHeartbeats 4000000 in
set_option maxRecDepth 100000 in
theorem c_X3_spread (l : Launch) {D : va_G} {cy : Nat → ClassId} {A : Nat → Nat} {G : Nat → Bool} {M : Mem} {sz : Nat} {a0 : Nat} {a1 : Nat} {x2 : Int32} {x3 : Int32} (h0 : TT G 2 a0) (h1 : TT G 0 a1)  {z : (Int32 × Mem)} (hm : m_X3_spread a0 a1 x2 x3 M = some z) : Met l yX3_spread (wm yX3_spread cX3_spread 8 (some .int)) ({ frames := 3, cells := 0, slots := 0, locals := 68 } : Room) (va_Pc [.ref (A a0), .ref (A a1), .int x2, .int x3] (Pr D cy A G M sz)) (va_Qi (fun (r' : Int32) (u : Mem) => r' = z.1 ∧ u = z.2) (Po D cy A G (Fr A G sz)) (Fr A G sz))  0 0 (Fr A G sz) := by
  refine ofB (Qc := fun sz => va_Qi (fun (r' : Int32) (u : Mem) => r' = z.1 ∧ u = z.2) (Po D cy A G (Fr A G sz)) (Fr A G sz)) (by decide +kernel) (Nat.le_of_ble_eq_true rfl) ?_
  intro p e s m below meth c hx hb hr hts hown hlocks hml hmn hK hw ls hl
  have hl : lv_has ls 8 [(0, .ref (A a0)), (1, .ref (A a1)), (2, .int x2), (3, .int x3)] := hl
  have J13 : ∀  (n : Nat) (v4 : Int32) (v5 : Int32) (v6 : Int32) (M : Mem), m_X3_spread_L13 a0 a1 x2 x3 n v4 v5 v6 M = some z → ∀ (H : Heap) (locs : List Loc), WD D cy (Fr A G s.heap.size) A s.heap G M H locs → ∀ ls : Array Slot, lv_has ls 8 [(0, .ref (A a0)), (1, .ref (A a1)), (2, .int x2), (3, .int x3), (4, .int v4), (5, .int v5), (6, .int v6)] → W p l e (headSpec (wm yX3_spread cX3_spread 8 (some .int)) ({ frames := 3, cells := 0, slots := 0, locals := 68 } : Room)).room s m ([.ref (A a0), .ref (A a1), .int x2, .int x3] : List Value).toArray below meth c H locs 0 0 (MQ below (va_Qi (fun (r' : Int32) (u : Mem) => r' = z.1 ∧ u = z.2) (Po D cy A G (Fr A G s.heap.size)) (Fr A G s.heap.size)) ([.ref (A a0), .ref (A a1), .int x2, .int x3] : List Value).toArray s 0 0 (Fr A G s.heap.size)) (F0 m 13 ls []) := by
    intro n
    induction n with
    | zero =>
      intro v4 v5 v6 M hm
      cases (show (none : Option (Int32 × Mem)) = some z from hm)
    | succ n ih =>
      intro v4 v5 v6 M hm H locs hw ls hl
      have hm := (m_X3_spread_L13_s a0 a1 x2 x3 n v4 v5 v6 M).symm.trans hm
      refine lv_iload hx hb dX3_spread_13 (lv_at hl 6 rfl) ?_
      refine lv_aload_n hx hb dX3_spread_15 rfl (lv_at hl 1 rfl) ?_
      refine g0 hx hb hts hown hK hw h1 2 (by decide) (.int (gF M a1 2)) rfl k_fl_RX3_127 (fun _ h => h) dX3_spread_16 ?_
      refine lv_icmp_ge (tgt := 78) hx hb dX3_spread_19 (by decide) (fun hq3 => ?_) (fun hq3 => ?_)
      · have hm := (if_pos hq3).symm.trans hm
        refine lv_iload hx hb dX3_spread_78 (lv_at hl 4 rfl) ?_
        cases hm
        exact eI hx hb hr hlocks hK hw dX3_spread_80
      · have hm := (if_neg hq3).symm.trans hm
        refine lv_aload_n hx hb dX3_spread_22 rfl (lv_at hl 0 rfl) ?_
        refine lv_aload_n hx hb dX3_spread_23 rfl (lv_at hl 1 rfl) ?_
        refine lv_iload hx hb dX3_spread_24 (lv_at hl 5 rfl) ?_
        refine lv_iload_n hx hb dX3_spread_26 rfl (lv_at hl 2 rfl) ?_
        refine lv_iload hx hb dX3_spread_27 (lv_at hl 6 rfl) ?_
        obtain ⟨z4, e5, hm⟩ := bd_some hm
        refine ki hw Fr_hi (rV hx hb hml hts hown hK hw (c_X0_writeSetNode l h1 e5) h1 (by decide) rfl (mkV 3 hts k_ml_RX3_130 k_im_yX0_writeSetNode k_se_yX0_writeSetNode k_in_RX0 k_co_yX0_writeSetNode hd_X0_writeSetNode ⟨Nat.le_of_ble_eq_true rfl, Nat.le_of_ble_eq_true rfl⟩) rfl hl.1 rfl (Nat.le_of_ble_eq_true rfl) dX3_spread_29 ⟨Nat.le_of_ble_eq_true rfl, Nat.le_of_ble_eq_true rfl⟩) (fun H locs hw => ?_)
        obtain ⟨z6, e7, hm⟩ := bd_some hm
        refine kq hw Fr_hi (rV hx hb hml hts hown hK hw (c_X3_node l h0 e7) h0 (by decide) rfl (mkV 1 hts k_ml_RX3_37 k_im_yX3_node k_se_yX3_node k_in_RX3 k_co_yX3_node hd_X3_node ⟨Nat.le_of_ble_eq_true rfl, Nat.le_of_ble_eq_true rfl⟩) rfl hl.1 rfl (Nat.le_of_ble_eq_true rfl) dX3_spread_32 ⟨Nat.le_of_ble_eq_true rfl, Nat.le_of_ble_eq_true rfl⟩) (fun hr8 H locs hw => ?_) (fun q9 hr8 H locs hw => ?_)
        · have hm := (on_none hr8).symm.trans hm
          refine lv_astoreN (lv' := [(7, .null), (0, .ref (A a0)), (1, .ref (A a1)), (2, .int x2), (3, .int x3), (4, .int v4), (5, .int v5), (6, .int v6)]) hx hb dX3_spread_35 hl (by decide) rfl (fun ls hl => ?_)
          refine lv_aloadN hx hb dX3_spread_37 (lv_at hl 0 rfl) ?_
          refine lv_ifnullN (tgt := 72) hx hb dX3_spread_39 (by decide) ?_
          refine lv_iinc (v := (v6 + 1)) (lv' := [(6, .int (v6 + 1)), (7, .null), (0, .ref (A a0)), (1, .ref (A a1)), (2, .int x2), (3, .int x3), (4, .int v4), (5, .int v5)]) hx hb dX3_spread_72 hl (k := 7) rfl rfl (by decide) rfl (fun ls hl => ?_)
          refine lv_goto (tgt := 13) hx hb dX3_spread_75 (by decide) ?_
          exact ih v4 v5 (v6 + 1) M hm H locs hw ls (lv_sub hl [2, 3, 4, 5, 6, 7, 0] rfl)
        · have hm := (on_some hr8).symm.trans hm
          have hp10 := t_X3_node h0 (hr8 ▸ e7)
          refine lv_astore (lv' := [(7, .ref (A q9)), (0, .ref (A a0)), (1, .ref (A a1)), (2, .int x2), (3, .int x3), (4, .int v4), (5, .int v5), (6, .int v6)]) hx hb dX3_spread_35 hl (by decide) rfl (fun ls hl => ?_)
          refine lv_aload hx hb dX3_spread_37 (lv_at hl 0 rfl) ?_
          refine lv_ifnull hx hb dX3_spread_39 ?_
          refine lv_aload hx hb dX3_spread_42 (lv_at hl 0 rfl) ?_
          refine g1 hx hb hts hown hK hw hp10 0 (by decide) (.int (gF M q9 0)) rfl k_fl_RX3_68 (fun _ h => h) dX3_spread_44 ?_
          refine lv_if_eq (tgt := 72) hx hb dX3_spread_47 (by decide) (fun hq11 => ?_) (fun hq11 => ?_)
          · have hm := (if_pos hq11).symm.trans hm
            refine lv_iinc (v := (v6 + 1)) (lv' := [(6, .int (v6 + 1)), (7, .ref (A q9)), (0, .ref (A a0)), (1, .ref (A a1)), (2, .int x2), (3, .int x3), (4, .int v4), (5, .int v5)]) hx hb dX3_spread_72 hl (k := 7) rfl rfl (by decide) rfl (fun ls hl => ?_)
            refine lv_goto (tgt := 13) hx hb dX3_spread_75 (by decide) ?_
            exact ih v4 v5 (v6 + 1) M hm H locs hw ls (lv_sub hl [2, 3, 4, 5, 6, 7, 0] rfl)
          · have hm := (if_neg hq11).symm.trans hm
            refine lv_aload hx hb dX3_spread_50 (lv_at hl 0 rfl) ?_
            refine lv_aload_n hx hb dX3_spread_52 rfl (lv_at hl 2 rfl) ?_
            refine g0 hx hb hts hown hK hw h1 0 (by decide) (.int (gF M a1 0)) rfl k_fl_RX3_117 (fun _ h => h) dX3_spread_53 ?_
            refine lv_iload_n hx hb dX3_spread_56 rfl (lv_at hl 3 rfl) ?_
            obtain ⟨z12, e13, hm⟩ := bd_some hm
            refine ki hw Fr_hi (rV hx hb hml hts hown hK hw (c_X1_holds l hp10 e13) hp10 (by decide) rfl (mkV 2 hts k_ml_RX3_217 k_im_yX1_holds k_se_yX1_holds k_in_RX1 k_co_yX1_holds hd_X1_holds ⟨Nat.le_of_ble_eq_true rfl, Nat.le_of_ble_eq_true rfl⟩) rfl hl.1 rfl (Nat.le_of_ble_eq_true rfl) dX3_spread_57 ⟨Nat.le_of_ble_eq_true rfl, Nat.le_of_ble_eq_true rfl⟩) (fun H locs hw => ?_)
            refine lv_if_ne (tgt := 72) hx hb dX3_spread_60 (by decide) (fun hq14 => ?_) (fun hq14 => ?_)
            · have hm := (if_neg hq14).symm.trans hm
              refine lv_iinc (v := (v6 + 1)) (lv' := [(6, .int (v6 + 1)), (7, .ref (A q9)), (0, .ref (A a0)), (1, .ref (A a1)), (2, .int x2), (3, .int x3), (4, .int v4), (5, .int v5)]) hx hb dX3_spread_72 hl (k := 7) rfl rfl (by decide) rfl (fun ls hl => ?_)
              refine lv_goto (tgt := 13) hx hb dX3_spread_75 (by decide) ?_
              exact ih v4 v5 (v6 + 1) M hm H locs hw ls (lv_sub hl [2, 3, 4, 5, 6, 7, 0] rfl)
            · have hm := (if_pos hq14).symm.trans hm
              refine lv_aload hx hb dX3_spread_63 (lv_at hl 0 rfl) ?_
              refine lv_iload_n hx hb dX3_spread_65 rfl (lv_at hl 4 rfl) ?_
              obtain ⟨z15, e16, hm⟩ := bd_some hm
              refine kv hw Fr_hi (rV hx hb hml hts hown hK hw (c_X1_keep l hp10 e16) hp10 (by decide) rfl (mkV 1 hts k_ml_RX3_98 k_im_yX1_keep k_se_yX1_keep k_in_RX1 k_co_yX1_keep hd_X1_keep ⟨Nat.le_of_ble_eq_true rfl, Nat.le_of_ble_eq_true rfl⟩) rfl hl.1 rfl (Nat.le_of_ble_eq_true rfl) dX3_spread_66 ⟨Nat.le_of_ble_eq_true rfl, Nat.le_of_ble_eq_true rfl⟩) (fun H locs hw => ?_)
              refine lv_iinc (v := (v4 + 1)) (lv' := [(4, .int (v4 + 1)), (7, .ref (A q9)), (0, .ref (A a0)), (1, .ref (A a1)), (2, .int x2), (3, .int x3), (5, .int v5), (6, .int v6)]) hx hb dX3_spread_69 hl (k := 5) rfl rfl (by decide) rfl (fun ls hl => ?_)
              refine lv_iinc (v := (v6 + 1)) (lv' := [(6, .int (v6 + 1)), (4, .int (v4 + 1)), (7, .ref (A q9)), (0, .ref (A a0)), (1, .ref (A a1)), (2, .int x2), (3, .int x3), (5, .int v5)]) hx hb dX3_spread_72 hl (k := 7) rfl rfl (by decide) rfl (fun ls hl => ?_)
              refine lv_goto (tgt := 13) hx hb dX3_spread_75 (by decide) ?_
              exact ih (v4 + 1) v5 (v6 + 1) z15 hm H locs hw ls (lv_sub hl [3, 4, 5, 6, 1, 7, 0] rfl)
  unfold m_X3_spread at hm
  revert hw
  suffices K : ∀ (H : Heap) (locs : List Loc), WD D cy (Fr A G s.heap.size) A s.heap G M H locs → W p l e (headSpec (wm yX3_spread cX3_spread 8 (some .int)) ({ frames := 3, cells := 0, slots := 0, locals := 68 } : Room)).room s m ([.ref (A a0), .ref (A a1), .int x2, .int x3] : List Value).toArray below meth c H locs 0 0 (MQ below (va_Qi (fun (r' : Int32) (u : Mem) => r' = z.1 ∧ u = z.2) (Po D cy A G (Fr A G s.heap.size)) (Fr A G s.heap.size)) ([.ref (A a0), .ref (A a1), .int x2, .int x3] : List Value).toArray s 0 0 (Fr A G s.heap.size)) (F0 m 0 ls []) from fun hw => K _ _ hw
  intro H locs hw
  refine lv_iconst (v := 0) hx hb dX3_spread_0 (by decide) ?_
  refine lv_istore (lv' := [(4, .int 0), (0, .ref (A a0)), (1, .ref (A a1)), (2, .int x2), (3, .int x3)]) hx hb dX3_spread_1 hl (by decide) rfl (fun ls hl => ?_)
  refine lv_aload_n hx hb dX3_spread_3 rfl (lv_at hl 2 rfl) ?_
  refine lv_iload_n hx hb dX3_spread_4 rfl (lv_at hl 3 rfl) ?_
  obtain ⟨z1, e2, hm⟩ := bd_some hm
  refine ki hw Fr_hi (rV hx hb hml hts hown hK hw (c_X0_fragmentOf l h1 e2) h1 (by decide) rfl (mkV 1 hts k_ml_RX3_124 k_im_yX0_fragmentOf k_se_yX0_fragmentOf k_in_RX0 k_co_yX0_fragmentOf hd_X0_fragmentOf ⟨Nat.le_of_ble_eq_true rfl, Nat.le_of_ble_eq_true rfl⟩) rfl hl.1 rfl (Nat.le_of_ble_eq_true rfl) dX3_spread_5 ⟨Nat.le_of_ble_eq_true rfl, Nat.le_of_ble_eq_true rfl⟩) (fun H locs hw => ?_)
  refine lv_istore (lv' := [(5, .int z1), (4, .int 0), (0, .ref (A a0)), (1, .ref (A a1)), (2, .int x2), (3, .int x3)]) hx hb dX3_spread_8 hl (by decide) rfl (fun ls hl => ?_)
  refine lv_iconst (v := 0) hx hb dX3_spread_10 (by decide) ?_
  refine lv_istore (lv' := [(6, .int 0), (5, .int z1), (4, .int 0), (0, .ref (A a0)), (1, .ref (A a1)), (2, .int x2), (3, .int x3)]) hx hb dX3_spread_11 hl (by decide) rfl (fun ls hl => ?_)
  exact J13 fuel 0 z1 0 M hm H locs hw ls (lv_sub hl [3, 4, 5, 6, 2, 1, 0] rfl)
set_option maxHeartbeats 4000000 in
set_option maxRecDepth 100000 in
theorem c_X3_recoverEntry (l : Launch) {D : va_G} {cy : Nat → ClassId} {A : Nat → Nat} {G : Nat → Bool} {M : Mem} {sz : Nat} {a0 : Nat} {a1 : Nat} {x2 : Int32} (h0 : TT G 2 a0) (h1 : TT G 0 a1)  {z : (Int32 × Mem)} (hm : m_X3_recoverEntry a0 a1 x2 M = some z) : Met l yX3_recoverEntry (wm yX3_recoverEntry cX3_recoverEntry 4 (some .boolean)) ({ frames := 4, cells := 0, slots := 0, locals := 95 } : Room) (va_Pc [.ref (A a0), .ref (A a1), .int x2] (Pr D cy A G M sz)) (va_Qi (fun (r' : Int32) (u : Mem) => r' = z.1 ∧ u = z.2) (Po D cy A G (Fr A G sz)) (Fr A G sz))  0 0 (Fr A G sz) := by
  refine ofB (Qc := fun sz => va_Qi (fun (r' : Int32) (u : Mem) => r' = z.1 ∧ u = z.2) (Po D cy A G (Fr A G sz)) (Fr A G sz)) (by decide +kernel) (Nat.le_of_ble_eq_true rfl) ?_
  intro p e s m below meth c hx hb hr hts hown hlocks hml hmn hK hw ls hl
  have hl : lv_has ls 4 [(0, .ref (A a0)), (1, .ref (A a1)), (2, .int x2)] := hl
  unfold m_X3_recoverEntry at hm
  revert hw
  suffices K : ∀ (H : Heap) (locs : List Loc), WD D cy (Fr A G s.heap.size) A s.heap G M H locs → W p l e (headSpec (wm yX3_recoverEntry cX3_recoverEntry 4 (some .boolean)) ({ frames := 4, cells := 0, slots := 0, locals := 95 } : Room)).room s m ([.ref (A a0), .ref (A a1), .int x2] : List Value).toArray below meth c H locs 0 0 (MQ below (va_Qi (fun (r' : Int32) (u : Mem) => r' = z.1 ∧ u = z.2) (Po D cy A G (Fr A G s.heap.size)) (Fr A G s.heap.size)) ([.ref (A a0), .ref (A a1), .int x2] : List Value).toArray s 0 0 (Fr A G s.heap.size)) (F0 m 0 ls []) from fun hw => K _ _ hw
  intro H locs hw
  refine lv_aload_n hx hb dX3_recoverEntry_0 rfl (lv_at hl 0 rfl) ?_
  refine lv_aload_n hx hb dX3_recoverEntry_1 rfl (lv_at hl 1 rfl) ?_
  refine lv_iload_n hx hb dX3_recoverEntry_2 rfl (lv_at hl 2 rfl) ?_
  obtain ⟨z1, e2, hm⟩ := bd_some hm
  refine ki hw Fr_hi (rV hx hb hml hts hown hK hw (c_X3_firstCopy l h0 h1 e2) h0 (by decide) rfl (mkV 2 hts k_ml_RX3_208 k_im_yX3_firstCopy k_se_yX3_firstCopy k_in_RX3 k_co_yX3_firstCopy hd_X3_firstCopy ⟨Nat.le_of_ble_eq_true rfl, Nat.le_of_ble_eq_true rfl⟩) rfl hl.1 rfl (Nat.le_of_ble_eq_true rfl) dX3_recoverEntry_3 ⟨Nat.le_of_ble_eq_true rfl, Nat.le_of_ble_eq_true rfl⟩) (fun H locs hw => ?_)
  refine lv_istore_n (lv' := [(3, .int z1), (0, .ref (A a0)), (1, .ref (A a1)), (2, .int x2)]) hx hb dX3_recoverEntry_6 rfl hl (by decide) rfl (fun ls hl => ?_)
  refine lv_iload_n hx hb dX3_recoverEntry_7 rfl (lv_at hl 0 rfl) ?_
  refine lv_iconst (v := (-1)) hx hb dX3_recoverEntry_8 (by decide) ?_
  refine lv_icmp_ne (tgt := 14) hx hb dX3_recoverEntry_9 (by decide) (fun hq3 => ?_) (fun hq3 => ?_)
  · have hm := (if_neg hq3).symm.trans hm
    refine lv_aload_n hx hb dX3_recoverEntry_14 rfl (lv_at hl 1 rfl) ?_
    refine lv_aload_n hx hb dX3_recoverEntry_15 rfl (lv_at hl 2 rfl) ?_
    refine lv_iload_n hx hb dX3_recoverEntry_16 rfl (lv_at hl 3 rfl) ?_
    refine lv_aload_n hx hb dX3_recoverEntry_17 rfl (lv_at hl 2 rfl) ?_
    refine g0 hx hb hts hown hK hw h1 0 (by decide) (.int (gF M a1 0)) rfl k_fl_RX3_117 (fun _ h => h) dX3_recoverEntry_18 ?_
    refine lv_iload_n hx hb dX3_recoverEntry_21 rfl (lv_at hl 3 rfl) ?_
    refine lv_iload_n hx hb dX3_recoverEntry_22 rfl (lv_at hl 0 rfl) ?_
    refine ki hw Fr_hi (rS hx hb hml hts hown hK hw (c_X2_payloadOf l z1) (mkS 1 hts k_ml_RX3_212 k_st_yX2_payloadOf k_in_RX2 k_co_yX2_payloadOf hd_X2_payloadOf ⟨Nat.le_of_ble_eq_true rfl, Nat.le_of_ble_eq_true rfl⟩) rfl hl.1 rfl (Nat.le_of_ble_eq_true rfl) dX3_recoverEntry_23 ⟨Nat.le_of_ble_eq_true rfl, Nat.le_of_ble_eq_true rfl⟩) (fun H locs hw => ?_)
    refine lv_iload_n hx hb dX3_recoverEntry_26 rfl (lv_at hl 3 rfl) ?_
    refine lv_iconst (v := 1) hx hb dX3_recoverEntry_27 (by decide) ?_
    refine lv_isub hx hb dX3_recoverEntry_28 ?_
    refine ki hw Fr_hi (rS hx hb hml hts hown hK hw (c_X2_of l (gF M a1 0) x2 (m_X2_payloadOf z1) (x2 - 1)) (mkS 4 hts k_ml_RX3_120 k_st_yX2_of k_in_RX2 k_co_yX2_of hd_X2_of ⟨Nat.le_of_ble_eq_true rfl, Nat.le_of_ble_eq_true rfl⟩) rfl hl.1 rfl (Nat.le_of_ble_eq_true rfl) dX3_recoverEntry_29 ⟨Nat.le_of_ble_eq_true rfl, Nat.le_of_ble_eq_true rfl⟩) (fun H locs hw => ?_)
    obtain ⟨z4, e5, hm⟩ := bd_some hm
    refine ki hw Fr_hi (rV hx hb hml hts hown hK hw (c_X3_spread l h0 h1 e5) h0 (by decide) rfl (mkV 3 hts k_ml_RX3_213 k_im_yX3_spread k_se_yX3_spread k_in_RX3 k_co_yX3_spread hd_X3_spread ⟨Nat.le_of_ble_eq_true rfl, Nat.le_of_ble_eq_true rfl⟩) rfl hl.1 rfl (Nat.le_of_ble_eq_true rfl) dX3_recoverEntry_32 ⟨Nat.le_of_ble_eq_true rfl, Nat.le_of_ble_eq_true rfl⟩) (fun H locs hw => ?_)
    refine lv_pop hx hb dX3_recoverEntry_35 rfl ?_
    refine lv_iconst (v := 1) hx hb dX3_recoverEntry_36 (by decide) ?_
    cases hm
    exact eZ (show zb 1 by decide) hx hb hr hlocks hK hw dX3_recoverEntry_37
  · have hm := (if_pos hq3).symm.trans hm
    refine lv_iconst (v := 0) hx hb dX3_recoverEntry_12 (by decide) ?_
    cases hm
    exact eZ (show zb 0 by decide) hx hb hr hlocks hK hw dX3_recoverEntry_13
set_option maxHeartbeats 4000000 in
set_option maxRecDepth 100000 in
theorem c_X3_recoverLedger (l : Launch) {D : va_G} {cy : Nat → ClassId} {A : Nat → Nat} {G : Nat → Bool} {M : Mem} {sz : Nat} {a0 : Nat} {a1 : Nat} (h0 : TT G 2 a0) (h1 : TT G 0 a1)  {z : (Int32 × Mem)} (hm : m_X3_recoverLedger a0 a1 M = some z) : Met l yX3_recoverLedger (wm yX3_recoverLedger cX3_recoverLedger 3 (some .int)) ({ frames := 5, cells := 0, slots := 0, locals := 118 } : Room) (va_Pc [.ref (A a0), .ref (A a1)] (Pr D cy A G M sz)) (va_Qi (fun (r' : Int32) (u : Mem) => r' = z.1 ∧ u = z.2) (Po D cy A G (Fr A G sz)) (Fr A G sz))  0 0 (Fr A G sz) := by
  refine ofB (Qc := fun sz => va_Qi (fun (r' : Int32) (u : Mem) => r' = z.1 ∧ u = z.2) (Po D cy A G (Fr A G sz)) (Fr A G sz)) (by decide +kernel) (Nat.le_of_ble_eq_true rfl) ?_
  intro p e s m below meth c hx hb hr hts hown hlocks hml hmn hK hw ls hl
  have hl : lv_has ls 3 [(0, .ref (A a0)), (1, .ref (A a1))] := hl
  have J50 : ∀  (v2 : Int32) (M : Mem), m_X3_recoverLedger_b50 a0 a1 v2 M = some z → ∀ (H : Heap) (locs : List Loc), WD D cy (Fr A G s.heap.size) A s.heap G M H locs → ∀ ls : Array Slot, lv_has ls 3 [(1, .ref (A a1)), (2, .int v2)] → W p l e (headSpec (wm yX3_recoverLedger cX3_recoverLedger 3 (some .int)) ({ frames := 5, cells := 0, slots := 0, locals := 118 } : Room)).room s m ([.ref (A a0), .ref (A a1)] : List Value).toArray below meth c H locs 0 0 (MQ below (va_Qi (fun (r' : Int32) (u : Mem) => r' = z.1 ∧ u = z.2) (Po D cy A G (Fr A G s.heap.size)) (Fr A G s.heap.size)) ([.ref (A a0), .ref (A a1)] : List Value).toArray s 0 0 (Fr A G s.heap.size)) (F0 m 50 ls []) := by
    intro v2 M hm H locs hw ls hl
    unfold m_X3_recoverLedger_b50 at hm
    refine lv_aload_n hx hb dX3_recoverLedger_50 rfl (lv_at hl 0 rfl) ?_
    refine lv_iconst (v := 2) hx hb dX3_recoverLedger_51 (by decide) ?_
    refine p0 hx hb hts hown hK hw h1 4 (by decide) k_fl_RX3_162 (fun _ h => h) rfl rfl rfl dX3_recoverLedger_52 (fun H locs hw => ?_)
    refine lv_aload_n hx hb dX3_recoverLedger_55 rfl (lv_at hl 0 rfl) ?_
    refine lv_iload_n hx hb dX3_recoverLedger_56 rfl (lv_at hl 1 rfl) ?_
    refine lv_iconst (v := 1) hx hb dX3_recoverLedger_57 (by decide) ?_
    refine lv_isub hx hb dX3_recoverLedger_58 ?_
    refine p0 hx hb hts hown hK hw h1 6 (by decide) k_fl_RX3_180 (fun _ h => h) rfl rfl rfl dX3_recoverLedger_59 (fun H locs hw => ?_)
    refine lv_aload_n hx hb dX3_recoverLedger_62 rfl (lv_at hl 0 rfl) ?_
    refine g0 hx hb hts hown hK hw h1 6 (by decide) (.int (gF (sF a1 6 (v2 - 1) (sF a1 4 2 M)) a1 6)) rfl k_fl_RX3_180 (fun _ h => h) dX3_recoverLedger_63 ?_
    cases hm
    exact eI hx hb hr hlocks hK hw dX3_recoverLedger_66
  have J29 : ∀  (n : Nat) (v2 : Int32) (M : Mem), m_X3_recoverLedger_L29 a0 a1 n v2 M = some z → ∀ (H : Heap) (locs : List Loc), WD D cy (Fr A G s.heap.size) A s.heap G M H locs → ∀ ls : Array Slot, lv_has ls 3 [(0, .ref (A a0)), (1, .ref (A a1)), (2, .int v2)] → W p l e (headSpec (wm yX3_recoverLedger cX3_recoverLedger 3 (some .int)) ({ frames := 5, cells := 0, slots := 0, locals := 118 } : Room)).room s m ([.ref (A a0), .ref (A a1)] : List Value).toArray below meth c H locs 0 0 (MQ below (va_Qi (fun (r' : Int32) (u : Mem) => r' = z.1 ∧ u = z.2) (Po D cy A G (Fr A G s.heap.size)) (Fr A G s.heap.size)) ([.ref (A a0), .ref (A a1)] : List Value).toArray s 0 0 (Fr A G s.heap.size)) (F0 m 29 ls []) := by
    intro n
    induction n with
    | zero =>
      intro v2 M hm
      cases (show (none : Option (Int32 × Mem)) = some z from hm)
    | succ n ih =>
      intro v2 M hm H locs hw ls hl
      have hm := (m_X3_recoverLedger_L29_s a0 a1 n v2 M).symm.trans hm
      refine lv_iload_n hx hb dX3_recoverLedger_29 rfl (lv_at hl 2 rfl) ?_
      refine lv_bipush (v := 40) hx hb dX3_recoverLedger_30 (by decide) ?_
      refine lv_icmp_ge (tgt := 50) hx hb dX3_recoverLedger_32 (by decide) (fun hq8 => ?_) (fun hq8 => ?_)
      · have hm := (if_pos hq8).symm.trans hm
        exact J50 v2 M hm H locs hw ls (lv_sub hl [1, 2] rfl)
      · have hm := (if_neg hq8).symm.trans hm
        refine lv_aload_n hx hb dX3_recoverLedger_35 rfl (lv_at hl 0 rfl) ?_
        refine lv_aload_n hx hb dX3_recoverLedger_36 rfl (lv_at hl 1 rfl) ?_
        refine lv_iload_n hx hb dX3_recoverLedger_37 rfl (lv_at hl 2 rfl) ?_
        obtain ⟨z9, e10, hm⟩ := bd_some hm
        refine ki hw Fr_hi (rV hx hb hml hts hown hK hw (c_X3_recoverEntry l h0 h1 e10) h0 (by decide) rfl (mkV 2 hts k_ml_RX3_176 k_im_yX3_recoverEntry k_se_yX3_recoverEntry k_in_RX3 k_co_yX3_recoverEntry hd_X3_recoverEntry ⟨Nat.le_of_ble_eq_true rfl, Nat.le_of_ble_eq_true rfl⟩) rfl hl.1 rfl (Nat.le_of_ble_eq_true rfl) dX3_recoverLedger_38 ⟨Nat.le_of_ble_eq_true rfl, Nat.le_of_ble_eq_true rfl⟩) (fun H locs hw => ?_)
        refine lv_if_eq (tgt := 50) hx hb dX3_recoverLedger_41 (by decide) (fun hq11 => ?_) (fun hq11 => ?_)
        · have hm := (if_pos hq11).symm.trans hm
          exact J50 v2 z9.2 hm H locs hw ls (lv_sub hl [1, 2] rfl)
        · have hm := (if_neg hq11).symm.trans hm
          refine lv_iinc (v := (v2 + 1)) (lv' := [(2, .int (v2 + 1)), (0, .ref (A a0)), (1, .ref (A a1))]) hx hb dX3_recoverLedger_44 hl (k := 2) rfl rfl (by decide) rfl (fun ls hl => ?_)
          refine lv_goto (tgt := 29) hx hb dX3_recoverLedger_47 (by decide) ?_
          exact ih (v2 + 1) z9.2 hm H locs hw ls (lv_sub hl [1, 2, 0] rfl)
  unfold m_X3_recoverLedger at hm
  revert hw
  suffices K : ∀ (H : Heap) (locs : List Loc), WD D cy (Fr A G s.heap.size) A s.heap G M H locs → W p l e (headSpec (wm yX3_recoverLedger cX3_recoverLedger 3 (some .int)) ({ frames := 5, cells := 0, slots := 0, locals := 118 } : Room)).room s m ([.ref (A a0), .ref (A a1)] : List Value).toArray below meth c H locs 0 0 (MQ below (va_Qi (fun (r' : Int32) (u : Mem) => r' = z.1 ∧ u = z.2) (Po D cy A G (Fr A G s.heap.size)) (Fr A G s.heap.size)) ([.ref (A a0), .ref (A a1)] : List Value).toArray s 0 0 (Fr A G s.heap.size)) (F0 m 0 ls []) from fun hw => K _ _ hw
  intro H locs hw
  refine lv_aload_n hx hb dX3_recoverLedger_0 rfl (lv_at hl 1 rfl) ?_
  refine lv_iconst (v := 1) hx hb dX3_recoverLedger_1 (by decide) ?_
  refine p0 hx hb hts hown hK hw h1 4 (by decide) k_fl_RX3_162 (fun _ h => h) rfl rfl rfl dX3_recoverLedger_2 (fun H locs hw => ?_)
  refine lv_aload_n hx hb dX3_recoverLedger_5 rfl (lv_at hl 0 rfl) ?_
  refine lv_aload_n hx hb dX3_recoverLedger_6 rfl (lv_at hl 1 rfl) ?_
  obtain ⟨z1, e2, hm⟩ := bd_some hm
  refine kv hw Fr_hi (rV hx hb hml hts hown hK hw (c_X3_fenceLastEnsemble l h0 h1 e2) h0 (by decide) rfl (mkV 1 hts k_ml_RX3_165 k_im_yX3_fenceLastEnsemble k_se_yX3_fenceLastEnsemble k_in_RX3 k_co_yX3_fenceLastEnsemble hd_X3_fenceLastEnsemble ⟨Nat.le_of_ble_eq_true rfl, Nat.le_of_ble_eq_true rfl⟩) rfl hl.1 rfl (Nat.le_of_ble_eq_true rfl) dX3_recoverLedger_7 ⟨Nat.le_of_ble_eq_true rfl, Nat.le_of_ble_eq_true rfl⟩) (fun H locs hw => ?_)
  refine lv_aload_n hx hb dX3_recoverLedger_10 rfl (lv_at hl 0 rfl) ?_
  refine lv_aload_n hx hb dX3_recoverLedger_11 rfl (lv_at hl 1 rfl) ?_
  obtain ⟨z3, e4, hm⟩ := bd_some hm
  refine ki hw Fr_hi (rV hx hb hml hts hown hK hw (c_X3_someQuorumIsDown l h0 h1 e4) h0 (by decide) rfl (mkV 1 hts k_ml_RX3_168 k_im_yX3_someQuorumIsDown k_se_yX3_someQuorumIsDown k_in_RX3 k_co_yX3_someQuorumIsDown hd_X3_someQuorumIsDown ⟨Nat.le_of_ble_eq_true rfl, Nat.le_of_ble_eq_true rfl⟩) rfl hl.1 rfl (Nat.le_of_ble_eq_true rfl) dX3_recoverLedger_12 ⟨Nat.le_of_ble_eq_true rfl, Nat.le_of_ble_eq_true rfl⟩) (fun H locs hw => ?_)
  refine lv_if_eq (tgt := 21) hx hb dX3_recoverLedger_15 (by decide) (fun hq5 => ?_) (fun hq5 => ?_)
  · have hm := (if_pos hq5).symm.trans hm
    refine lv_aload_n hx hb dX3_recoverLedger_21 rfl (lv_at hl 0 rfl) ?_
    refine lv_aload_n hx hb dX3_recoverLedger_22 rfl (lv_at hl 1 rfl) ?_
    obtain ⟨z6, e7, hm⟩ := bd_some hm
    refine ki hw Fr_hi (rV hx hb hml hts hown hK hw (c_X3_lastKnownConfirmed l h0 h1 e7) h0 (by decide) rfl (mkV 1 hts k_ml_RX3_172 k_im_yX3_lastKnownConfirmed k_se_yX3_lastKnownConfirmed k_in_RX3 k_co_yX3_lastKnownConfirmed hd_X3_lastKnownConfirmed ⟨Nat.le_of_ble_eq_true rfl, Nat.le_of_ble_eq_true rfl⟩) rfl hl.1 rfl (Nat.le_of_ble_eq_true rfl) dX3_recoverLedger_23 ⟨Nat.le_of_ble_eq_true rfl, Nat.le_of_ble_eq_true rfl⟩) (fun H locs hw => ?_)
    refine lv_iconst (v := 1) hx hb dX3_recoverLedger_26 (by decide) ?_
    refine lv_iadd hx hb dX3_recoverLedger_27 ?_
    refine lv_istore_n (lv' := [(2, .int (z6 + 1)), (0, .ref (A a0)), (1, .ref (A a1))]) hx hb dX3_recoverLedger_28 rfl hl (by decide) rfl (fun ls hl => ?_)
    exact J29 fuel (z6 + 1) z1 hm H locs hw ls (lv_sub hl [1, 2, 0] rfl)
  · have hm := (if_neg hq5).symm.trans hm
    refine lv_bipush (v := (-2)) hx hb dX3_recoverLedger_18 (by decide) ?_
    cases hm
    exact eI hx hb hr hlocks hK hw dX3_recoverLedger_20
set_option maxHeartbeats 4000000 in
set_option maxRecDepth 100000 in
theorem c_X3_replaceDownNodes (l : Launch) {D : va_G} {cy : Nat → ClassId} {A : Nat → Nat} {G : Nat → Bool} {M : Mem} {sz : Nat} {a0 : Nat} {a1 : Nat} (h0 : TT G 2 a0) (h1 : TT G 0 a1)  {z : Mem} (hm : m_X3_replaceDownNodes a0 a1 M = some z) : Met l yX3_replaceDownNodes (wm yX3_replaceDownNodes cX3_replaceDownNodes 5 none) ({ frames := 3, cells := 0, slots := 0, locals := 68 } : Room) (va_Pc [.ref (A a0), .ref (A a1)] (Pr D cy A G M sz)) (va_Qv (fun (u : Mem) => u = z) (Po D cy A G (Fr A G sz)) (Fr A G sz))  0 0 (Fr A G sz) := by
  refine ofB (Qc := fun sz => va_Qv (fun (u : Mem) => u = z) (Po D cy A G (Fr A G sz)) (Fr A G sz)) (by decide +kernel) (Nat.le_of_ble_eq_true rfl) ?_
  intro p e s m below meth c hx hb hr hts hown hlocks hml hmn hK hw ls hl
  have hl : lv_has ls 5 [(0, .ref (A a0)), (1, .ref (A a1))] := hl
  have J46 : ∀ (k2 : Int32 → Mem → Option Mem) (jk2 : ∀ (v2 : Int32) (M : Mem), k2 v2 M = some z → ∀ (H : Heap) (locs : List Loc), WD D cy (Fr A G s.heap.size) A s.heap G M H locs → ∀ ls : Array Slot, lv_has ls 5 [(0, .ref (A a0)), (1, .ref (A a1)), (2, .int v2)] → W p l e (headSpec (wm yX3_replaceDownNodes cX3_replaceDownNodes 5 none) ({ frames := 3, cells := 0, slots := 0, locals := 68 } : Room)).room s m ([.ref (A a0), .ref (A a1)] : List Value).toArray below meth c H locs 0 0 (MQ below (va_Qv (fun (u : Mem) => u = z) (Po D cy A G (Fr A G s.heap.size)) (Fr A G s.heap.size)) ([.ref (A a0), .ref (A a1)] : List Value).toArray s 0 0 (Fr A G s.heap.size)) (F0 m 2 ls [])) (k12 : Int32 → Int32 → Mem → Option Mem) (jk12 : ∀ (v2 : Int32) (v3 : Int32) (M : Mem), k12 v2 v3 M = some z → ∀ (H : Heap) (locs : List Loc), WD D cy (Fr A G s.heap.size) A s.heap G M H locs → ∀ ls : Array Slot, lv_has ls 5 [(0, .ref (A a0)), (1, .ref (A a1)), (2, .int v2), (3, .int v3)] → W p l e (headSpec (wm yX3_replaceDownNodes cX3_replaceDownNodes 5 none) ({ frames := 3, cells := 0, slots := 0, locals := 68 } : Room)).room s m ([.ref (A a0), .ref (A a1)] : List Value).toArray below meth c H locs 0 0 (MQ below (va_Qv (fun (u : Mem) => u = z) (Po D cy A G (Fr A G s.heap.size)) (Fr A G s.heap.size)) ([.ref (A a0), .ref (A a1)] : List Value).toArray s 0 0 (Fr A G s.heap.size)) (F0 m 12 ls [])) (v2 : Int32) (v3 : Int32) (u0 : Int32) (M : Mem), m_X3_replaceDownNodes_b46 a0 a1 k2 k12 v2 v3 u0 M = some z → ∀ (H : Heap) (locs : List Loc), WD D cy (Fr A G s.heap.size) A s.heap G M H locs → ∀ ls : Array Slot, lv_has ls 5 [(0, .ref (A a0)), (1, .ref (A a1)), (2, .int v2), (3, .int v3)] → W p l e (headSpec (wm yX3_replaceDownNodes cX3_replaceDownNodes 5 none) ({ frames := 3, cells := 0, slots := 0, locals := 68 } : Room)).room s m ([.ref (A a0), .ref (A a1)] : List Value).toArray below meth c H locs 0 0 (MQ below (va_Qv (fun (u : Mem) => u = z) (Po D cy A G (Fr A G s.heap.size)) (Fr A G s.heap.size)) ([.ref (A a0), .ref (A a1)] : List Value).toArray s 0 0 (Fr A G s.heap.size)) (F0 m 46 ls [.int u0]) := by
    intro k2 jk2 k12 jk12 v2 v3 u0 M hm H locs hw ls hl
    unfold m_X3_replaceDownNodes_b46 at hm
    refine lv_istore (lv' := [(4, .int u0), (0, .ref (A a0)), (1, .ref (A a1)), (2, .int v2), (3, .int v3)]) hx hb dX3_replaceDownNodes_46 hl (by decide) rfl (fun ls hl => ?_)
    refine lv_iload hx hb dX3_replaceDownNodes_48 (lv_at hl 0 rfl) ?_
    refine lv_iconst (v := (-1)) hx hb dX3_replaceDownNodes_50 (by decide) ?_
    refine lv_icmp_eq (tgt := 62) hx hb dX3_replaceDownNodes_51 (by decide) (fun hq12 => ?_) (fun hq12 => ?_)
    · have hm := (if_pos hq12).symm.trans hm
      refine lv_iinc (v := (v3 + 1)) (lv' := [(3, .int (v3 + 1)), (4, .int u0), (0, .ref (A a0)), (1, .ref (A a1)), (2, .int v2)]) hx hb dX3_replaceDownNodes_62 hl (k := 4) rfl rfl (by decide) rfl (fun ls hl => ?_)
      refine lv_goto (tgt := 12) hx hb dX3_replaceDownNodes_65 (by decide) ?_
      exact jk12 v2 (v3 + 1) M hm H locs hw ls (lv_sub hl [2, 3, 4, 0] rfl)
    · have hm := (if_neg hq12).symm.trans hm
      refine lv_aload_n hx hb dX3_replaceDownNodes_54 rfl (lv_at hl 2 rfl) ?_
      refine lv_iload_n hx hb dX3_replaceDownNodes_55 rfl (lv_at hl 3 rfl) ?_
      refine lv_iload_n hx hb dX3_replaceDownNodes_56 rfl (lv_at hl 4 rfl) ?_
      refine lv_iload hx hb dX3_replaceDownNodes_57 (lv_at hl 0 rfl) ?_
      obtain ⟨z13, e14, hm⟩ := bd_some hm
      refine kv hw Fr_hi (rV hx hb hml hts hown hK hw (c_X0_setNode l h1 e14) h1 (by decide) rfl (mkV 3 hts k_ml_RX3_65 k_im_yX0_setNode k_se_yX0_setNode k_in_RX0 k_co_yX0_setNode hd_X0_setNode ⟨Nat.le_of_ble_eq_true rfl, Nat.le_of_ble_eq_true rfl⟩) rfl hl.1 rfl (Nat.le_of_ble_eq_true rfl) dX3_replaceDownNodes_59 ⟨Nat.le_of_ble_eq_true rfl, Nat.le_of_ble_eq_true rfl⟩) (fun H locs hw => ?_)
      refine lv_iinc (v := (v3 + 1)) (lv' := [(3, .int (v3 + 1)), (4, .int u0), (0, .ref (A a0)), (1, .ref (A a1)), (2, .int v2)]) hx hb dX3_replaceDownNodes_62 hl (k := 4) rfl rfl (by decide) rfl (fun ls hl => ?_)
      refine lv_goto (tgt := 12) hx hb dX3_replaceDownNodes_65 (by decide) ?_
      exact jk12 v2 (v3 + 1) z13 hm H locs hw ls (lv_sub hl [2, 3, 4, 0] rfl)
  have J12 : ∀ (k2 : Int32 → Mem → Option Mem) (jk2 : ∀ (v2 : Int32) (M : Mem), k2 v2 M = some z → ∀ (H : Heap) (locs : List Loc), WD D cy (Fr A G s.heap.size) A s.heap G M H locs → ∀ ls : Array Slot, lv_has ls 5 [(0, .ref (A a0)), (1, .ref (A a1)), (2, .int v2)] → W p l e (headSpec (wm yX3_replaceDownNodes cX3_replaceDownNodes 5 none) ({ frames := 3, cells := 0, slots := 0, locals := 68 } : Room)).room s m ([.ref (A a0), .ref (A a1)] : List Value).toArray below meth c H locs 0 0 (MQ below (va_Qv (fun (u : Mem) => u = z) (Po D cy A G (Fr A G s.heap.size)) (Fr A G s.heap.size)) ([.ref (A a0), .ref (A a1)] : List Value).toArray s 0 0 (Fr A G s.heap.size)) (F0 m 2 ls [])) (n : Nat) (v2 : Int32) (v3 : Int32) (M : Mem), m_X3_replaceDownNodes_L12 a0 a1 k2 n v2 v3 M = some z → ∀ (H : Heap) (locs : List Loc), WD D cy (Fr A G s.heap.size) A s.heap G M H locs → ∀ ls : Array Slot, lv_has ls 5 [(0, .ref (A a0)), (1, .ref (A a1)), (2, .int v2), (3, .int v3)] → W p l e (headSpec (wm yX3_replaceDownNodes cX3_replaceDownNodes 5 none) ({ frames := 3, cells := 0, slots := 0, locals := 68 } : Room)).room s m ([.ref (A a0), .ref (A a1)] : List Value).toArray below meth c H locs 0 0 (MQ below (va_Qv (fun (u : Mem) => u = z) (Po D cy A G (Fr A G s.heap.size)) (Fr A G s.heap.size)) ([.ref (A a0), .ref (A a1)] : List Value).toArray s 0 0 (Fr A G s.heap.size)) (F0 m 12 ls []) := by
    intro k2 jk2 n
    induction n with
    | zero =>
      intro v2 v3 M hm
      cases (show (none : Option Mem) = some z from hm)
    | succ n ih =>
      intro v2 v3 M hm H locs hw ls hl
      have hm := (m_X3_replaceDownNodes_L12_s a0 a1 k2 n v2 v3 M).symm.trans hm
      refine lv_iload_n hx hb dX3_replaceDownNodes_12 rfl (lv_at hl 3 rfl) ?_
      refine lv_aload_n hx hb dX3_replaceDownNodes_13 rfl (lv_at hl 1 rfl) ?_
      refine g0 hx hb hts hown hK hw h1 1 (by decide) (.int (gF M a1 1)) rfl k_fl_RX3_183 (fun _ h => h) dX3_replaceDownNodes_14 ?_
      refine lv_icmp_ge (tgt := 68) hx hb dX3_replaceDownNodes_17 (by decide) (fun hq2 => ?_) (fun hq2 => ?_)
      · have hm := (if_pos hq2).symm.trans hm
        refine lv_iinc (v := (v2 + 1)) (lv' := [(2, .int (v2 + 1)), (0, .ref (A a0)), (1, .ref (A a1)), (3, .int v3)]) hx hb dX3_replaceDownNodes_68 hl (k := 2) rfl rfl (by decide) rfl (fun ls hl => ?_)
        refine lv_goto (tgt := 2) hx hb dX3_replaceDownNodes_71 (by decide) ?_
        exact jk2 (v2 + 1) M hm H locs hw ls (lv_sub hl [1, 2, 0] rfl)
      · have hm := (if_neg hq2).symm.trans hm
        refine lv_aload_n hx hb dX3_replaceDownNodes_20 rfl (lv_at hl 0 rfl) ?_
        refine lv_aload_n hx hb dX3_replaceDownNodes_21 rfl (lv_at hl 1 rfl) ?_
        refine lv_iload_n hx hb dX3_replaceDownNodes_22 rfl (lv_at hl 2 rfl) ?_
        refine lv_iload_n hx hb dX3_replaceDownNodes_23 rfl (lv_at hl 3 rfl) ?_
        obtain ⟨z3, e4, hm⟩ := bd_some hm
        refine ki hw Fr_hi (rV hx hb hml hts hown hK hw (c_X0_nodeAt l h1 e4) h1 (by decide) rfl (mkV 2 hts k_ml_RX3_140 k_im_yX0_nodeAt k_se_yX0_nodeAt k_in_RX0 k_co_yX0_nodeAt hd_X0_nodeAt ⟨Nat.le_of_ble_eq_true rfl, Nat.le_of_ble_eq_true rfl⟩) rfl hl.1 rfl (Nat.le_of_ble_eq_true rfl) dX3_replaceDownNodes_24 ⟨Nat.le_of_ble_eq_true rfl, Nat.le_of_ble_eq_true rfl⟩) (fun H locs hw => ?_)
        obtain ⟨z5, e6, hm⟩ := bd_some hm
        refine ki hw Fr_hi (rV hx hb hml hts hown hK hw (c_X3_isUp l h0 e6) h0 (by decide) rfl (mkV 1 hts k_ml_RX3_72 k_im_yX3_isUp k_se_yX3_isUp k_in_RX3 k_co_yX3_isUp hd_X3_isUp ⟨Nat.le_of_ble_eq_true rfl, Nat.le_of_ble_eq_true rfl⟩) rfl hl.1 rfl (Nat.le_of_ble_eq_true rfl) dX3_replaceDownNodes_27 ⟨Nat.le_of_ble_eq_true rfl, Nat.le_of_ble_eq_true rfl⟩) (fun H locs hw => ?_)
        refine lv_if_eq (tgt := 37) hx hb dX3_replaceDownNodes_30 (by decide) (fun hq7 => ?_) (fun hq7 => ?_)
        · have hm := (if_pos hq7).symm.trans hm
          refine lv_aload_n hx hb dX3_replaceDownNodes_37 rfl (lv_at hl 0 rfl) ?_
          refine lv_aload_n hx hb dX3_replaceDownNodes_38 rfl (lv_at hl 1 rfl) ?_
          refine lv_iload_n hx hb dX3_replaceDownNodes_39 rfl (lv_at hl 2 rfl) ?_
          obtain ⟨z8, e9, hm⟩ := bd_some hm
          refine ki hw Fr_hi (rV hx hb hml hts hown hK hw (c_X0_ensembleMask l h1 e9) h1 (by decide) rfl (mkV 1 hts k_ml_RX3_58 k_im_yX0_ensembleMask k_se_yX0_ensembleMask k_in_RX0 k_co_yX0_ensembleMask hd_X0_ensembleMask ⟨Nat.le_of_ble_eq_true rfl, Nat.le_of_ble_eq_true rfl⟩) rfl hl.1 rfl (Nat.le_of_ble_eq_true rfl) dX3_replaceDownNodes_40 ⟨Nat.le_of_ble_eq_true rfl, Nat.le_of_ble_eq_true rfl⟩) (fun H locs hw => ?_)
          obtain ⟨z10, e11, hm⟩ := bd_some hm
          refine ki hw Fr_hi (rV hx hb hml hts hown hK hw (c_X3_choose l h0 e11) h0 (by decide) rfl (mkV 1 hts k_ml_RX3_62 k_im_yX3_choose k_se_yX3_choose k_in_RX3 k_co_yX3_choose hd_X3_choose ⟨Nat.le_of_ble_eq_true rfl, Nat.le_of_ble_eq_true rfl⟩) rfl hl.1 rfl (Nat.le_of_ble_eq_true rfl) dX3_replaceDownNodes_43 ⟨Nat.le_of_ble_eq_true rfl, Nat.le_of_ble_eq_true rfl⟩) (fun H locs hw => ?_)
          exact J46 k2 jk2 (fun w0 w1 w2 => m_X3_replaceDownNodes_L12 a0 a1 k2 n w0 w1 w2) (fun w0 w1 w2 hh H locs hw ls hl => ih w0 w1 w2 hh H locs hw ls hl) v2 v3 z10 M hm H locs hw ls hl
        · have hm := (if_neg hq7).symm.trans hm
          refine lv_iconst (v := (-1)) hx hb dX3_replaceDownNodes_33 (by decide) ?_
          refine lv_goto (tgt := 46) hx hb dX3_replaceDownNodes_34 (by decide) ?_
          exact J46 k2 jk2 (fun w0 w1 w2 => m_X3_replaceDownNodes_L12 a0 a1 k2 n w0 w1 w2) (fun w0 w1 w2 hh H locs hw ls hl => ih w0 w1 w2 hh H locs hw ls hl) v2 v3 (-1) M hm H locs hw ls hl
  have J2 : ∀  (n : Nat) (v2 : Int32) (M : Mem), m_X3_replaceDownNodes_L2 a0 a1 n v2 M = some z → ∀ (H : Heap) (locs : List Loc), WD D cy (Fr A G s.heap.size) A s.heap G M H locs → ∀ ls : Array Slot, lv_has ls 5 [(0, .ref (A a0)), (1, .ref (A a1)), (2, .int v2)] → W p l e (headSpec (wm yX3_replaceDownNodes cX3_replaceDownNodes 5 none) ({ frames := 3, cells := 0, slots := 0, locals := 68 } : Room)).room s m ([.ref (A a0), .ref (A a1)] : List Value).toArray below meth c H locs 0 0 (MQ below (va_Qv (fun (u : Mem) => u = z) (Po D cy A G (Fr A G s.heap.size)) (Fr A G s.heap.size)) ([.ref (A a0), .ref (A a1)] : List Value).toArray s 0 0 (Fr A G s.heap.size)) (F0 m 2 ls []) := by
    intro n
    induction n with
    | zero =>
      intro v2 M hm
      cases (show (none : Option Mem) = some z from hm)
    | succ n ih =>
      intro v2 M hm H locs hw ls hl
      have hm := (m_X3_replaceDownNodes_L2_s a0 a1 n v2 M).symm.trans hm
      refine lv_iload_n hx hb dX3_replaceDownNodes_2 rfl (lv_at hl 2 rfl) ?_
      refine lv_aload_n hx hb dX3_replaceDownNodes_3 rfl (lv_at hl 1 rfl) ?_
      refine g0 hx hb hts hown hK hw h1 7 (by decide) (.int (gF M a1 7)) rfl k_fl_RX3_223 (fun _ h => h) dX3_replaceDownNodes_4 ?_
      refine lv_icmp_ge (tgt := 74) hx hb dX3_replaceDownNodes_7 (by decide) (fun hq1 => ?_) (fun hq1 => ?_)
      · have hm := (if_pos hq1).symm.trans hm
        cases hm
        exact eV hx hb hr hlocks hK hw dX3_replaceDownNodes_74
      · have hm := (if_neg hq1).symm.trans hm
        refine lv_iconst (v := 0) hx hb dX3_replaceDownNodes_10 (by decide) ?_
        refine lv_istore_n (lv' := [(3, .int 0), (0, .ref (A a0)), (1, .ref (A a1)), (2, .int v2)]) hx hb dX3_replaceDownNodes_11 rfl hl (by decide) rfl (fun ls hl => ?_)
        exact J12 (fun w0 w1 => m_X3_replaceDownNodes_L2 a0 a1 n w0 w1) (fun w0 w1 hh H locs hw ls hl => ih w0 w1 hh H locs hw ls hl) fuel v2 0 M hm H locs hw ls (lv_sub hl [1, 2, 3, 0] rfl)
  unfold m_X3_replaceDownNodes at hm
  revert hw
  suffices K : ∀ (H : Heap) (locs : List Loc), WD D cy (Fr A G s.heap.size) A s.heap G M H locs → W p l e (headSpec (wm yX3_replaceDownNodes cX3_replaceDownNodes 5 none) ({ frames := 3, cells := 0, slots := 0, locals := 68 } : Room)).room s m ([.ref (A a0), .ref (A a1)] : List Value).toArray below meth c H locs 0 0 (MQ below (va_Qv (fun (u : Mem) => u = z) (Po D cy A G (Fr A G s.heap.size)) (Fr A G s.heap.size)) ([.ref (A a0), .ref (A a1)] : List Value).toArray s 0 0 (Fr A G s.heap.size)) (F0 m 0 ls []) from fun hw => K _ _ hw
  intro H locs hw
  refine lv_iconst (v := 0) hx hb dX3_replaceDownNodes_0 (by decide) ?_
  refine lv_istore_n (lv' := [(2, .int 0), (0, .ref (A a0)), (1, .ref (A a1))]) hx hb dX3_replaceDownNodes_1 rfl hl (by decide) rfl (fun ls hl => ?_)
  exact J2 fuel 0 M hm H locs hw ls (lv_sub hl [1, 2, 0] rfl)
set_option maxHeartbeats 4000000 in
set_option maxRecDepth 100000 in
theorem c_X3_copyMissingEntries (l : Launch) {D : va_G} {cy : Nat → ClassId} {A : Nat → Nat} {G : Nat → Bool} {M : Mem} {sz : Nat} {a0 : Nat} {a1 : Nat} (h0 : TT G 2 a0) (h1 : TT G 0 a1)  {z : (Int32 × Mem)} (hm : m_X3_copyMissingEntries a0 a1 M = some z) : Met l yX3_copyMissingEntries (wm yX3_copyMissingEntries cX3_copyMissingEntries 6 (some .int)) ({ frames := 4, cells := 0, slots := 0, locals := 95 } : Room) (va_Pc [.ref (A a0), .ref (A a1)] (Pr D cy A G M sz)) (va_Qi (fun (r' : Int32) (u : Mem) => r' = z.1 ∧ u = z.2) (Po D cy A G (Fr A G sz)) (Fr A G sz))  0 0 (Fr A G sz) := by
  refine ofB (Qc := fun sz => va_Qi (fun (r' : Int32) (u : Mem) => r' = z.1 ∧ u = z.2) (Po D cy A G (Fr A G sz)) (Fr A G sz)) (by decide +kernel) (Nat.le_of_ble_eq_true rfl) ?_
  intro p e s m below meth c hx hb hr hts hown hlocks hml hmn hK hw ls hl
  have hl : lv_has ls 6 [(0, .ref (A a0)), (1, .ref (A a1))] := hl
  have J15 : ∀  (n : Nat) (v2 : Int32) (v3 : Int32) (v4 : Int32) (M : Mem), m_X3_copyMissingEntries_L15 a0 a1 n v2 v3 v4 M = some z → ∀ (H : Heap) (locs : List Loc), WD D cy (Fr A G s.heap.size) A s.heap G M H locs → ∀ ls : Array Slot, lv_has ls 6 [(0, .ref (A a0)), (1, .ref (A a1)), (2, .int v2), (3, .int v3), (4, .int v4)] → W p l e (headSpec (wm yX3_copyMissingEntries cX3_copyMissingEntries 6 (some .int)) ({ frames := 4, cells := 0, slots := 0, locals := 95 } : Room)).room s m ([.ref (A a0), .ref (A a1)] : List Value).toArray below meth c H locs 0 0 (MQ below (va_Qi (fun (r' : Int32) (u : Mem) => r' = z.1 ∧ u = z.2) (Po D cy A G (Fr A G s.heap.size)) (Fr A G s.heap.size)) ([.ref (A a0), .ref (A a1)] : List Value).toArray s 0 0 (Fr A G s.heap.size)) (F0 m 15 ls []) := by
    intro n
    induction n with
    | zero =>
      intro v2 v3 v4 M hm
      cases (show (none : Option (Int32 × Mem)) = some z from hm)
    | succ n ih =>
      intro v2 v3 v4 M hm H locs hw ls hl
      have hm := (m_X3_copyMissingEntries_L15_s a0 a1 n v2 v3 v4 M).symm.trans hm
      refine lv_iload hx hb dX3_copyMissingEntries_15 (lv_at hl 4 rfl) ?_
      refine lv_iload_n hx hb dX3_copyMissingEntries_17 rfl (lv_at hl 3 rfl) ?_
      refine lv_icmp_gt (tgt := 54) hx hb dX3_copyMissingEntries_18 (by decide) (fun hq3 => ?_) (fun hq3 => ?_)
      · have hm := (if_pos hq3).symm.trans hm
        refine lv_iload_n hx hb dX3_copyMissingEntries_54 rfl (lv_at hl 2 rfl) ?_
        cases hm
        exact eI hx hb hr hlocks hK hw dX3_copyMissingEntries_55
      · have hm := (if_neg hq3).symm.trans hm
        refine lv_aload_n hx hb dX3_copyMissingEntries_21 rfl (lv_at hl 0 rfl) ?_
        refine lv_aload_n hx hb dX3_copyMissingEntries_22 rfl (lv_at hl 1 rfl) ?_
        refine lv_iload hx hb dX3_copyMissingEntries_23 (lv_at hl 4 rfl) ?_
        obtain ⟨z4, e5, hm⟩ := bd_some hm
        refine ki hw Fr_hi (rV hx hb hml hts hown hK hw (c_X3_firstCopy l h0 h1 e5) h0 (by decide) rfl (mkV 2 hts k_ml_RX3_208 k_im_yX3_firstCopy k_se_yX3_firstCopy k_in_RX3 k_co_yX3_firstCopy hd_X3_firstCopy ⟨Nat.le_of_ble_eq_true rfl, Nat.le_of_ble_eq_true rfl⟩) rfl hl.1 rfl (Nat.le_of_ble_eq_true rfl) dX3_copyMissingEntries_25 ⟨Nat.le_of_ble_eq_true rfl, Nat.le_of_ble_eq_true rfl⟩) (fun H locs hw => ?_)
        refine lv_istore (lv' := [(5, .int z4), (0, .ref (A a0)), (1, .ref (A a1)), (2, .int v2), (3, .int v3), (4, .int v4)]) hx hb dX3_copyMissingEntries_28 hl (by decide) rfl (fun ls hl => ?_)
        refine lv_iload hx hb dX3_copyMissingEntries_30 (lv_at hl 0 rfl) ?_
        refine lv_iconst (v := (-1)) hx hb dX3_copyMissingEntries_32 (by decide) ?_
        refine lv_icmp_eq (tgt := 48) hx hb dX3_copyMissingEntries_33 (by decide) (fun hq6 => ?_) (fun hq6 => ?_)
        · have hm := (if_pos hq6).symm.trans hm
          refine lv_iinc (v := (v4 + 1)) (lv' := [(4, .int (v4 + 1)), (5, .int z4), (0, .ref (A a0)), (1, .ref (A a1)), (2, .int v2), (3, .int v3)]) hx hb dX3_copyMissingEntries_48 hl (k := 5) rfl rfl (by decide) rfl (fun ls hl => ?_)
          refine lv_goto (tgt := 15) hx hb dX3_copyMissingEntries_51 (by decide) ?_
          exact ih v2 v3 (v4 + 1) M hm H locs hw ls (lv_sub hl [2, 3, 4, 5, 0] rfl)
        · have hm := (if_neg hq6).symm.trans hm
          refine lv_iload_n hx hb dX3_copyMissingEntries_36 rfl (lv_at hl 3 rfl) ?_
          refine lv_aload_n hx hb dX3_copyMissingEntries_37 rfl (lv_at hl 1 rfl) ?_
          refine lv_aload_n hx hb dX3_copyMissingEntries_38 rfl (lv_at hl 2 rfl) ?_
          refine lv_iload hx hb dX3_copyMissingEntries_39 (lv_at hl 5 rfl) ?_
          refine lv_iload hx hb dX3_copyMissingEntries_41 (lv_at hl 0 rfl) ?_
          obtain ⟨z7, e8, hm⟩ := bd_some hm
          refine ki hw Fr_hi (rV hx hb hml hts hown hK hw (c_X3_spread l h0 h1 e8) h0 (by decide) rfl (mkV 3 hts k_ml_RX3_213 k_im_yX3_spread k_se_yX3_spread k_in_RX3 k_co_yX3_spread hd_X3_spread ⟨Nat.le_of_ble_eq_true rfl, Nat.le_of_ble_eq_true rfl⟩) rfl hl.1 rfl (Nat.le_of_ble_eq_true rfl) dX3_copyMissingEntries_43 ⟨Nat.le_of_ble_eq_true rfl, Nat.le_of_ble_eq_true rfl⟩) (fun H locs hw => ?_)
          refine lv_iadd hx hb dX3_copyMissingEntries_46 ?_
          refine lv_istore_n (lv' := [(2, .int (v2 + z7.1)), (5, .int z4), (0, .ref (A a0)), (1, .ref (A a1)), (3, .int v3), (4, .int v4)]) hx hb dX3_copyMissingEntries_47 rfl hl (by decide) rfl (fun ls hl => ?_)
          refine lv_iinc (v := (v4 + 1)) (lv' := [(4, .int (v4 + 1)), (2, .int (v2 + z7.1)), (5, .int z4), (0, .ref (A a0)), (1, .ref (A a1)), (3, .int v3)]) hx hb dX3_copyMissingEntries_48 hl (k := 5) rfl rfl (by decide) rfl (fun ls hl => ?_)
          refine lv_goto (tgt := 15) hx hb dX3_copyMissingEntries_51 (by decide) ?_
          exact ih (v2 + z7.1) v3 (v4 + 1) z7.2 hm H locs hw ls (lv_sub hl [3, 4, 1, 5, 0] rfl)
  unfold m_X3_copyMissingEntries at hm
  revert hw
  suffices K : ∀ (H : Heap) (locs : List Loc), WD D cy (Fr A G s.heap.size) A s.heap G M H locs → W p l e (headSpec (wm yX3_copyMissingEntries cX3_copyMissingEntries 6 (some .int)) ({ frames := 4, cells := 0, slots := 0, locals := 95 } : Room)).room s m ([.ref (A a0), .ref (A a1)] : List Value).toArray below meth c H locs 0 0 (MQ below (va_Qi (fun (r' : Int32) (u : Mem) => r' = z.1 ∧ u = z.2) (Po D cy A G (Fr A G s.heap.size)) (Fr A G s.heap.size)) ([.ref (A a0), .ref (A a1)] : List Value).toArray s 0 0 (Fr A G s.heap.size)) (F0 m 0 ls []) from fun hw => K _ _ hw
  intro H locs hw
  refine lv_iconst (v := 0) hx hb dX3_copyMissingEntries_0 (by decide) ?_
  refine lv_istore_n (lv' := [(2, .int 0), (0, .ref (A a0)), (1, .ref (A a1))]) hx hb dX3_copyMissingEntries_1 rfl hl (by decide) rfl (fun ls hl => ?_)
  refine lv_aload_n hx hb dX3_copyMissingEntries_2 rfl (lv_at hl 2 rfl) ?_
  obtain ⟨z1, e2, hm⟩ := bd_some hm
  refine ki hw Fr_hi (rV hx hb hml hts hown hK hw (c_X0_lastToRead l h1 e2) h1 (by decide) rfl (mkV 0 hts k_ml_RX3_226 k_im_yX0_lastToRead k_se_yX0_lastToRead k_in_RX0 k_co_yX0_lastToRead hd_X0_lastToRead ⟨Nat.le_of_ble_eq_true rfl, Nat.le_of_ble_eq_true rfl⟩) rfl hl.1 rfl (Nat.le_of_ble_eq_true rfl) dX3_copyMissingEntries_3 ⟨Nat.le_of_ble_eq_true rfl, Nat.le_of_ble_eq_true rfl⟩) (fun H locs hw => ?_)
  refine lv_bipush (v := 39) hx hb dX3_copyMissingEntries_6 (by decide) ?_
  refine mnI hx hb (hml.trans hl.1.symm) hts hown k_ml_RX3_229 (Nat.le_of_ble_eq_true rfl) (Nat.le_of_ble_eq_true rfl) (Nat.le_of_ble_eq_true rfl) (Nat.le_of_ble_eq_true rfl) dX3_copyMissingEntries_8 ?_
  refine lv_istore_n (lv' := [(3, .int (if 39 < z1 then 39 else z1)), (2, .int 0), (0, .ref (A a0)), (1, .ref (A a1))]) hx hb dX3_copyMissingEntries_11 rfl hl (by decide) rfl (fun ls hl => ?_)
  refine lv_iconst (v := 0) hx hb dX3_copyMissingEntries_12 (by decide) ?_
  refine lv_istore (lv' := [(4, .int 0), (3, .int (if 39 < z1 then 39 else z1)), (2, .int 0), (0, .ref (A a0)), (1, .ref (A a1))]) hx hb dX3_copyMissingEntries_13 hl (by decide) rfl (fun ls hl => ?_)
  exact J15 fuel 0 (if 39 < z1 then 39 else z1) 0 M hm H locs hw ls (lv_sub hl [3, 4, 2, 1, 0] rfl)
set_option maxHeartbeats 4000000 in
set_option maxRecDepth 100000 in
theorem c_X3_holderMask (l : Launch) {D : va_G} {cy : Nat → ClassId} {A : Nat → Nat} {G : Nat → Bool} {M : Mem} {sz : Nat} {a0 : Nat} {a1 : Nat} {x2 : Int32} (h0 : TT G 2 a0) (h1 : TT G 0 a1)  {z : Int32} (hm : m_X3_holderMask a0 a1 x2 M = some z) : Met l yX3_holderMask (wm yX3_holderMask cX3_holderMask 6 (some .int)) ({ frames := 3, cells := 0, slots := 0, locals := 67 } : Room) (va_Pc [.ref (A a0), .ref (A a1), .int x2] (Pr D cy A G M sz)) (va_Qi (fun (r' : Int32) (u : Mem) => r' = z ∧ u = M) (Po D cy A G (Fr A G sz)) (Fr A G sz))  0 0 (Fr A G sz) := by
  refine ofB (Qc := fun sz => va_Qi (fun (r' : Int32) (u : Mem) => r' = z ∧ u = M) (Po D cy A G (Fr A G sz)) (Fr A G sz)) (by decide +kernel) (Nat.le_of_ble_eq_true rfl) ?_
  intro p e s m below meth c hx hb hr hts hown hlocks hml hmn hK hw ls hl
  have hl : lv_has ls 6 [(0, .ref (A a0)), (1, .ref (A a1)), (2, .int x2)] := hl
  have J5 : ∀  (n : Nat) (v3 : Int32) (v4 : Int32), m_X3_holderMask_L5 a0 a1 x2 M n v3 v4 = some z → ∀ (H : Heap) (locs : List Loc), WD D cy (Fr A G s.heap.size) A s.heap G M H locs → ∀ ls : Array Slot, lv_has ls 6 [(0, .ref (A a0)), (1, .ref (A a1)), (2, .int x2), (3, .int v3), (4, .int v4)] → W p l e (headSpec (wm yX3_holderMask cX3_holderMask 6 (some .int)) ({ frames := 3, cells := 0, slots := 0, locals := 67 } : Room)).room s m ([.ref (A a0), .ref (A a1), .int x2] : List Value).toArray below meth c H locs 0 0 (MQ below (va_Qi (fun (r' : Int32) (u : Mem) => r' = z ∧ u = M) (Po D cy A G (Fr A G s.heap.size)) (Fr A G s.heap.size)) ([.ref (A a0), .ref (A a1), .int x2] : List Value).toArray s 0 0 (Fr A G s.heap.size)) (F0 m 5 ls []) := by
    intro n
    induction n with
    | zero =>
      intro v3 v4 hm
      cases (show (none : Option Int32) = some z from hm)
    | succ n ih =>
      intro v3 v4 hm H locs hw ls hl
      have hm := (m_X3_holderMask_L5_s a0 a1 x2 M n v3 v4).symm.trans hm
      refine lv_iload hx hb dX3_holderMask_5 (lv_at hl 4 rfl) ?_
      refine lv_aload_n hx hb dX3_holderMask_7 rfl (lv_at hl 0 rfl) ?_
      refine g2 hx hb hts hown hK hw h0 0 (by decide) (.int (gF M a0 0)) rfl k_fl_RX3_27 (fun _ h => h) dX3_holderMask_8 ?_
      refine lv_icmp_ge (tgt := 57) hx hb dX3_holderMask_11 (by decide) (fun hq1 => ?_) (fun hq1 => ?_)
      · have hm := (if_pos hq1).symm.trans hm
        refine lv_iload_n hx hb dX3_holderMask_57 rfl (lv_at hl 3 rfl) ?_
        cases hm
        exact eI hx hb hr hlocks hK hw dX3_holderMask_58
      · have hm := (if_neg hq1).symm.trans hm
        refine lv_aload_n hx hb dX3_holderMask_14 rfl (lv_at hl 0 rfl) ?_
        refine lv_iload hx hb dX3_holderMask_15 (lv_at hl 4 rfl) ?_
        obtain ⟨z2, e3, hm⟩ := bd_some hm
        refine kq hw Fr_hi (rV hx hb hml hts hown hK hw (c_X3_node l h0 e3) h0 (by decide) rfl (mkV 1 hts k_ml_RX3_37 k_im_yX3_node k_se_yX3_node k_in_RX3 k_co_yX3_node hd_X3_node ⟨Nat.le_of_ble_eq_true rfl, Nat.le_of_ble_eq_true rfl⟩) rfl hl.1 rfl (Nat.le_of_ble_eq_true rfl) dX3_holderMask_17 ⟨Nat.le_of_ble_eq_true rfl, Nat.le_of_ble_eq_true rfl⟩) (fun hr4 H locs hw => ?_) (fun q5 hr4 H locs hw => ?_)
        · have hm := (on_none hr4).symm.trans hm
          refine lv_astoreN (lv' := [(5, .null), (0, .ref (A a0)), (1, .ref (A a1)), (2, .int x2), (3, .int v3), (4, .int v4)]) hx hb dX3_holderMask_20 hl (by decide) rfl (fun ls hl => ?_)
          refine lv_iload_n hx hb dX3_holderMask_22 rfl (lv_at hl 4 rfl) ?_
          refine lv_aloadN hx hb dX3_holderMask_23 (lv_at hl 0 rfl) ?_
          refine lv_ifnullN (tgt := 48) hx hb dX3_holderMask_25 (by decide) ?_
          refine lv_iconst (v := 0) hx hb dX3_holderMask_48 (by decide) ?_
          refine lv_ior hx hb dX3_holderMask_49 ?_
          refine lv_istore_n (lv' := [(3, .int (v3 ||| 0)), (5, .null), (0, .ref (A a0)), (1, .ref (A a1)), (2, .int x2), (4, .int v4)]) hx hb dX3_holderMask_50 rfl hl (by decide) rfl (fun ls hl => ?_)
          refine lv_iinc (v := (v4 + 1)) (lv' := [(4, .int (v4 + 1)), (3, .int (v3 ||| 0)), (5, .null), (0, .ref (A a0)), (1, .ref (A a1)), (2, .int x2)]) hx hb dX3_holderMask_51 hl (k := 5) rfl rfl (by decide) rfl (fun ls hl => ?_)
          refine lv_goto (tgt := 5) hx hb dX3_holderMask_54 (by decide) ?_
          exact ih (v3 ||| 0) (v4 + 1) hm H locs hw ls (lv_sub hl [3, 4, 5, 1, 0] rfl)
        · have hm := (on_some hr4).symm.trans hm
          have hp6 := t_X3_node h0 (hr4 ▸ e3)
          refine lv_astore (lv' := [(5, .ref (A q5)), (0, .ref (A a0)), (1, .ref (A a1)), (2, .int x2), (3, .int v3), (4, .int v4)]) hx hb dX3_holderMask_20 hl (by decide) rfl (fun ls hl => ?_)
          refine lv_iload_n hx hb dX3_holderMask_22 rfl (lv_at hl 4 rfl) ?_
          refine lv_aload hx hb dX3_holderMask_23 (lv_at hl 0 rfl) ?_
          refine lv_ifnull hx hb dX3_holderMask_25 ?_
          refine lv_aload hx hb dX3_holderMask_28 (lv_at hl 0 rfl) ?_
          refine lv_aload_n hx hb dX3_holderMask_30 rfl (lv_at hl 2 rfl) ?_
          refine g0 hx hb hts hown hK hw h1 0 (by decide) (.int (gF M a1 0)) rfl k_fl_RX3_117 (fun _ h => h) dX3_holderMask_31 ?_
          refine lv_iload_n hx hb dX3_holderMask_34 rfl (lv_at hl 3 rfl) ?_
          obtain ⟨z7, e8, hm⟩ := bd_some hm
          refine ki hw Fr_hi (rV hx hb hml hts hown hK hw (c_X1_holds l hp6 e8) hp6 (by decide) rfl (mkV 2 hts k_ml_RX3_217 k_im_yX1_holds k_se_yX1_holds k_in_RX1 k_co_yX1_holds hd_X1_holds ⟨Nat.le_of_ble_eq_true rfl, Nat.le_of_ble_eq_true rfl⟩) rfl hl.1 rfl (Nat.le_of_ble_eq_true rfl) dX3_holderMask_35 ⟨Nat.le_of_ble_eq_true rfl, Nat.le_of_ble_eq_true rfl⟩) (fun H locs hw => ?_)
          refine lv_if_eq (tgt := 48) hx hb dX3_holderMask_38 (by decide) (fun hq9 => ?_) (fun hq9 => ?_)
          · have hm := (if_pos hq9).symm.trans hm
            refine lv_iconst (v := 0) hx hb dX3_holderMask_48 (by decide) ?_
            refine lv_ior hx hb dX3_holderMask_49 ?_
            refine lv_istore_n (lv' := [(3, .int (v3 ||| 0)), (5, .ref (A q5)), (0, .ref (A a0)), (1, .ref (A a1)), (2, .int x2), (4, .int v4)]) hx hb dX3_holderMask_50 rfl hl (by decide) rfl (fun ls hl => ?_)
            refine lv_iinc (v := (v4 + 1)) (lv' := [(4, .int (v4 + 1)), (3, .int (v3 ||| 0)), (5, .ref (A q5)), (0, .ref (A a0)), (1, .ref (A a1)), (2, .int x2)]) hx hb dX3_holderMask_51 hl (k := 5) rfl rfl (by decide) rfl (fun ls hl => ?_)
            refine lv_goto (tgt := 5) hx hb dX3_holderMask_54 (by decide) ?_
            exact ih (v3 ||| 0) (v4 + 1) hm H locs hw ls (lv_sub hl [3, 4, 5, 1, 0] rfl)
          · have hm := (if_neg hq9).symm.trans hm
            refine lv_iconst (v := 1) hx hb dX3_holderMask_41 (by decide) ?_
            refine lv_iload hx hb dX3_holderMask_42 (lv_at hl 5 rfl) ?_
            refine lv_ishl hx hb dX3_holderMask_44 ?_
            refine lv_goto (tgt := 49) hx hb dX3_holderMask_45 (by decide) ?_
            refine lv_ior hx hb dX3_holderMask_49 ?_
            refine lv_istore_n (lv' := [(3, .int (v3 ||| (1 <<< (v4 &&& 31)))), (5, .ref (A q5)), (0, .ref (A a0)), (1, .ref (A a1)), (2, .int x2), (4, .int v4)]) hx hb dX3_holderMask_50 rfl hl (by decide) rfl (fun ls hl => ?_)
            refine lv_iinc (v := (v4 + 1)) (lv' := [(4, .int (v4 + 1)), (3, .int (v3 ||| (1 <<< (v4 &&& 31)))), (5, .ref (A q5)), (0, .ref (A a0)), (1, .ref (A a1)), (2, .int x2)]) hx hb dX3_holderMask_51 hl (k := 5) rfl rfl (by decide) rfl (fun ls hl => ?_)
            refine lv_goto (tgt := 5) hx hb dX3_holderMask_54 (by decide) ?_
            exact ih (v3 ||| (1 <<< (v4 &&& 31))) (v4 + 1) hm H locs hw ls (lv_sub hl [3, 4, 5, 1, 0] rfl)
  unfold m_X3_holderMask at hm
  revert hw
  suffices K : ∀ (H : Heap) (locs : List Loc), WD D cy (Fr A G s.heap.size) A s.heap G M H locs → W p l e (headSpec (wm yX3_holderMask cX3_holderMask 6 (some .int)) ({ frames := 3, cells := 0, slots := 0, locals := 67 } : Room)).room s m ([.ref (A a0), .ref (A a1), .int x2] : List Value).toArray below meth c H locs 0 0 (MQ below (va_Qi (fun (r' : Int32) (u : Mem) => r' = z ∧ u = M) (Po D cy A G (Fr A G s.heap.size)) (Fr A G s.heap.size)) ([.ref (A a0), .ref (A a1), .int x2] : List Value).toArray s 0 0 (Fr A G s.heap.size)) (F0 m 0 ls []) from fun hw => K _ _ hw
  intro H locs hw
  refine lv_iconst (v := 0) hx hb dX3_holderMask_0 (by decide) ?_
  refine lv_istore_n (lv' := [(3, .int 0), (0, .ref (A a0)), (1, .ref (A a1)), (2, .int x2)]) hx hb dX3_holderMask_1 rfl hl (by decide) rfl (fun ls hl => ?_)
  refine lv_iconst (v := 0) hx hb dX3_holderMask_2 (by decide) ?_
  refine lv_istore (lv' := [(4, .int 0), (3, .int 0), (0, .ref (A a0)), (1, .ref (A a1)), (2, .int x2)]) hx hb dX3_holderMask_3 hl (by decide) rfl (fun ls hl => ?_)
  exact J5 fuel 0 0 hm H locs hw ls (lv_sub hl [2, 3, 4, 1, 0] rfl)
set_option maxHeartbeats 4000000 in
set_option maxRecDepth 100000 in
theorem c_X3_countUnderReplicated (l : Launch) {D : va_G} {cy : Nat → ClassId} {A : Nat → Nat} {G : Nat → Bool} {M : Mem} {sz : Nat} {a0 : Nat} {a1 : Nat} (h0 : TT G 2 a0) (h1 : TT G 0 a1)  {z : Int32} (hm : m_X3_countUnderReplicated a0 a1 M = some z) : Met l yX3_countUnderReplicated (wm yX3_countUnderReplicated cX3_countUnderReplicated 7 (some .int)) ({ frames := 4, cells := 0, slots := 0, locals := 92 } : Room) (va_Pc [.ref (A a0), .ref (A a1)] (Pr D cy A G M sz)) (va_Qi (fun (r' : Int32) (u : Mem) => r' = z ∧ u = M) (Po D cy A G (Fr A G sz)) (Fr A G sz))  0 0 (Fr A G sz) := by
  refine ofB (Qc := fun sz => va_Qi (fun (r' : Int32) (u : Mem) => r' = z ∧ u = M) (Po D cy A G (Fr A G sz)) (Fr A G sz)) (by decide +kernel) (Nat.le_of_ble_eq_true rfl) ?_
  intro p e s m below meth c hx hb hr hts hown hlocks hml hmn hK hw ls hl
  have hl : lv_has ls 7 [(0, .ref (A a0)), (1, .ref (A a1))] := hl
  have J21 : ∀  (n : Nat) (v2 : Int32) (v3 : Int32) (v4 : Int32) (v5 : Int32), m_X3_countUnderReplicated_L21 a0 a1 M n v2 v3 v4 v5 = some z → ∀ (H : Heap) (locs : List Loc), WD D cy (Fr A G s.heap.size) A s.heap G M H locs → ∀ ls : Array Slot, lv_has ls 7 [(0, .ref (A a0)), (1, .ref (A a1)), (2, .int v2), (3, .int v3), (4, .int v4), (5, .int v5)] → W p l e (headSpec (wm yX3_countUnderReplicated cX3_countUnderReplicated 7 (some .int)) ({ frames := 4, cells := 0, slots := 0, locals := 92 } : Room)).room s m ([.ref (A a0), .ref (A a1)] : List Value).toArray below meth c H locs 0 0 (MQ below (va_Qi (fun (r' : Int32) (u : Mem) => r' = z ∧ u = M) (Po D cy A G (Fr A G s.heap.size)) (Fr A G s.heap.size)) ([.ref (A a0), .ref (A a1)] : List Value).toArray s 0 0 (Fr A G s.heap.size)) (F0 m 21 ls []) := by
    intro n
    induction n with
    | zero =>
      intro v2 v3 v4 v5 hm
      cases (show (none : Option Int32) = some z from hm)
    | succ n ih =>
      intro v2 v3 v4 v5 hm H locs hw ls hl
      have hm := (m_X3_countUnderReplicated_L21_s a0 a1 M n v2 v3 v4 v5).symm.trans hm
      refine lv_iload hx hb dX3_countUnderReplicated_21 (lv_at hl 5 rfl) ?_
      refine lv_iload hx hb dX3_countUnderReplicated_23 (lv_at hl 4 rfl) ?_
      refine lv_icmp_gt (tgt := 73) hx hb dX3_countUnderReplicated_25 (by decide) (fun hq5 => ?_) (fun hq5 => ?_)
      · have hm := (if_pos hq5).symm.trans hm
        refine lv_iload_n hx hb dX3_countUnderReplicated_73 rfl (lv_at hl 2 rfl) ?_
        cases hm
        exact eI hx hb hr hlocks hK hw dX3_countUnderReplicated_74
      · have hm := (if_neg hq5).symm.trans hm
        refine lv_aload_n hx hb dX3_countUnderReplicated_28 rfl (lv_at hl 1 rfl) ?_
        refine lv_aload_n hx hb dX3_countUnderReplicated_29 rfl (lv_at hl 1 rfl) ?_
        refine lv_iload hx hb dX3_countUnderReplicated_30 (lv_at hl 5 rfl) ?_
        obtain ⟨z6, e7, hm⟩ := bd_some hm
        refine ki hw Fr_hi (rV hx hb hml hts hown hK hw (c_X0_fragmentOf l h1 e7) h1 (by decide) rfl (mkV 1 hts k_ml_RX3_124 k_im_yX0_fragmentOf k_se_yX0_fragmentOf k_in_RX0 k_co_yX0_fragmentOf hd_X0_fragmentOf ⟨Nat.le_of_ble_eq_true rfl, Nat.le_of_ble_eq_true rfl⟩) rfl hl.1 rfl (Nat.le_of_ble_eq_true rfl) dX3_countUnderReplicated_32 ⟨Nat.le_of_ble_eq_true rfl, Nat.le_of_ble_eq_true rfl⟩) (fun H locs hw => ?_)
        refine lv_iload hx hb dX3_countUnderReplicated_35 (lv_at hl 5 rfl) ?_
        obtain ⟨z8, e9, hm⟩ := bd_some hm
        refine ki hw Fr_hi (rV hx hb hml hts hown hK hw (c_X0_writeSetMask l h1 e9) h1 (by decide) rfl (mkV 2 hts k_ml_RX3_156 k_im_yX0_writeSetMask k_se_yX0_writeSetMask k_in_RX0 k_co_yX0_writeSetMask hd_X0_writeSetMask ⟨Nat.le_of_ble_eq_true rfl, Nat.le_of_ble_eq_true rfl⟩) rfl hl.1 rfl (Nat.le_of_ble_eq_true rfl) dX3_countUnderReplicated_37 ⟨Nat.le_of_ble_eq_true rfl, Nat.le_of_ble_eq_true rfl⟩) (fun H locs hw => ?_)
        refine lv_istore (lv' := [(6, .int z8), (0, .ref (A a0)), (1, .ref (A a1)), (2, .int v2), (3, .int v3), (4, .int v4), (5, .int v5)]) hx hb dX3_countUnderReplicated_40 hl (by decide) rfl (fun ls hl => ?_)
        refine lv_iload hx hb dX3_countUnderReplicated_42 (lv_at hl 0 rfl) ?_
        refine lv_iload_n hx hb dX3_countUnderReplicated_44 rfl (lv_at hl 4 rfl) ?_
        refine lv_iand hx hb dX3_countUnderReplicated_45 ?_
        refine lv_aload_n hx hb dX3_countUnderReplicated_46 rfl (lv_at hl 1 rfl) ?_
        refine lv_aload_n hx hb dX3_countUnderReplicated_47 rfl (lv_at hl 2 rfl) ?_
        refine lv_iload hx hb dX3_countUnderReplicated_48 (lv_at hl 6 rfl) ?_
        obtain ⟨z10, e11, hm⟩ := bd_some hm
        refine ki hw Fr_hi (rV hx hb hml hts hown hK hw (c_X3_holderMask l h0 h1 e11) h0 (by decide) rfl (mkV 2 hts k_ml_RX3_232 k_im_yX3_holderMask k_se_yX3_holderMask k_in_RX3 k_co_yX3_holderMask hd_X3_holderMask ⟨Nat.le_of_ble_eq_true rfl, Nat.le_of_ble_eq_true rfl⟩) rfl hl.1 rfl (Nat.le_of_ble_eq_true rfl) dX3_countUnderReplicated_50 ⟨Nat.le_of_ble_eq_true rfl, Nat.le_of_ble_eq_true rfl⟩) (fun H locs hw => ?_)
        refine lv_iand hx hb dX3_countUnderReplicated_53 ?_
        refine ki hw Fr_hi (rS hx hb hml hts hown hK hw (c_J6_bitCount_0f7a4 l ((z8 &&& v3) &&& z10)) (mkS 1 hts k_ml_RX3_192 k_st_yJ6_bitCount_0f7a4 k_in_RJ6 k_co_yJ6_bitCount_0f7a4 hd_J6_bitCount_0f7a4 ⟨Nat.le_of_ble_eq_true rfl, Nat.le_of_ble_eq_true rfl⟩) rfl hl.1 rfl (Nat.le_of_ble_eq_true rfl) dX3_countUnderReplicated_54 ⟨Nat.le_of_ble_eq_true rfl, Nat.le_of_ble_eq_true rfl⟩) (fun H locs hw => ?_)
        refine lv_aload_n hx hb dX3_countUnderReplicated_57 rfl (lv_at hl 2 rfl) ?_
        refine g0 hx hb hts hown hK hw h1 2 (by decide) (.int (gF M a1 2)) rfl k_fl_RX3_127 (fun _ h => h) dX3_countUnderReplicated_58 ?_
        refine lv_icmp_ge (tgt := 67) hx hb dX3_countUnderReplicated_61 (by decide) (fun hq12 => ?_) (fun hq12 => ?_)
        · have hm := (if_pos hq12).symm.trans hm
          refine lv_iinc (v := (v5 + 1)) (lv' := [(5, .int (v5 + 1)), (6, .int z8), (0, .ref (A a0)), (1, .ref (A a1)), (2, .int v2), (3, .int v3), (4, .int v4)]) hx hb dX3_countUnderReplicated_67 hl (k := 6) rfl rfl (by decide) rfl (fun ls hl => ?_)
          refine lv_goto (tgt := 21) hx hb dX3_countUnderReplicated_70 (by decide) ?_
          exact ih v2 v3 v4 (v5 + 1) hm H locs hw ls (lv_sub hl [2, 3, 4, 5, 6, 0] rfl)
        · have hm := (if_neg hq12).symm.trans hm
          refine lv_iinc (v := (v2 + 1)) (lv' := [(2, .int (v2 + 1)), (6, .int z8), (0, .ref (A a0)), (1, .ref (A a1)), (3, .int v3), (4, .int v4), (5, .int v5)]) hx hb dX3_countUnderReplicated_64 hl (k := 3) rfl rfl (by decide) rfl (fun ls hl => ?_)
          refine lv_iinc (v := (v5 + 1)) (lv' := [(5, .int (v5 + 1)), (2, .int (v2 + 1)), (6, .int z8), (0, .ref (A a0)), (1, .ref (A a1)), (3, .int v3), (4, .int v4)]) hx hb dX3_countUnderReplicated_67 hl (k := 6) rfl rfl (by decide) rfl (fun ls hl => ?_)
          refine lv_goto (tgt := 21) hx hb dX3_countUnderReplicated_70 (by decide) ?_
          exact ih (v2 + 1) v3 v4 (v5 + 1) hm H locs hw ls (lv_sub hl [3, 4, 1, 5, 6, 0] rfl)
  unfold m_X3_countUnderReplicated at hm
  revert hw
  suffices K : ∀ (H : Heap) (locs : List Loc), WD D cy (Fr A G s.heap.size) A s.heap G M H locs → W p l e (headSpec (wm yX3_countUnderReplicated cX3_countUnderReplicated 7 (some .int)) ({ frames := 4, cells := 0, slots := 0, locals := 92 } : Room)).room s m ([.ref (A a0), .ref (A a1)] : List Value).toArray below meth c H locs 0 0 (MQ below (va_Qi (fun (r' : Int32) (u : Mem) => r' = z ∧ u = M) (Po D cy A G (Fr A G s.heap.size)) (Fr A G s.heap.size)) ([.ref (A a0), .ref (A a1)] : List Value).toArray s 0 0 (Fr A G s.heap.size)) (F0 m 0 ls []) from fun hw => K _ _ hw
  intro H locs hw
  refine lv_iconst (v := 0) hx hb dX3_countUnderReplicated_0 (by decide) ?_
  refine lv_istore_n (lv' := [(2, .int 0), (0, .ref (A a0)), (1, .ref (A a1))]) hx hb dX3_countUnderReplicated_1 rfl hl (by decide) rfl (fun ls hl => ?_)
  refine lv_aload_n hx hb dX3_countUnderReplicated_2 rfl (lv_at hl 1 rfl) ?_
  obtain ⟨z1, e2, hm⟩ := bd_some hm
  refine ki hw Fr_hi (rV hx hb hml hts hown hK hw (c_X3_upMask l h0 e2) h0 (by decide) rfl (mkV 0 hts k_ml_RX3_189 k_im_yX3_upMask k_se_yX3_upMask k_in_RX3 k_co_yX3_upMask hd_X3_upMask ⟨Nat.le_of_ble_eq_true rfl, Nat.le_of_ble_eq_true rfl⟩) rfl hl.1 rfl (Nat.le_of_ble_eq_true rfl) dX3_countUnderReplicated_3 ⟨Nat.le_of_ble_eq_true rfl, Nat.le_of_ble_eq_true rfl⟩) (fun H locs hw => ?_)
  refine lv_istore_n (lv' := [(3, .int z1), (2, .int 0), (0, .ref (A a0)), (1, .ref (A a1))]) hx hb dX3_countUnderReplicated_6 rfl hl (by decide) rfl (fun ls hl => ?_)
  refine lv_aload_n hx hb dX3_countUnderReplicated_7 rfl (lv_at hl 3 rfl) ?_
  obtain ⟨z3, e4, hm⟩ := bd_some hm
  refine ki hw Fr_hi (rV hx hb hml hts hown hK hw (c_X0_lastToRead l h1 e4) h1 (by decide) rfl (mkV 0 hts k_ml_RX3_226 k_im_yX0_lastToRead k_se_yX0_lastToRead k_in_RX0 k_co_yX0_lastToRead hd_X0_lastToRead ⟨Nat.le_of_ble_eq_true rfl, Nat.le_of_ble_eq_true rfl⟩) rfl hl.1 rfl (Nat.le_of_ble_eq_true rfl) dX3_countUnderReplicated_8 ⟨Nat.le_of_ble_eq_true rfl, Nat.le_of_ble_eq_true rfl⟩) (fun H locs hw => ?_)
  refine lv_bipush (v := 39) hx hb dX3_countUnderReplicated_11 (by decide) ?_
  refine mnI hx hb (hml.trans hl.1.symm) hts hown k_ml_RX3_229 (Nat.le_of_ble_eq_true rfl) (Nat.le_of_ble_eq_true rfl) (Nat.le_of_ble_eq_true rfl) (Nat.le_of_ble_eq_true rfl) dX3_countUnderReplicated_13 ?_
  refine lv_istore (lv' := [(4, .int (if 39 < z3 then 39 else z3)), (3, .int z1), (2, .int 0), (0, .ref (A a0)), (1, .ref (A a1))]) hx hb dX3_countUnderReplicated_16 hl (by decide) rfl (fun ls hl => ?_)
  refine lv_iconst (v := 0) hx hb dX3_countUnderReplicated_18 (by decide) ?_
  refine lv_istore (lv' := [(5, .int 0), (4, .int (if 39 < z3 then 39 else z3)), (3, .int z1), (2, .int 0), (0, .ref (A a0)), (1, .ref (A a1))]) hx hb dX3_countUnderReplicated_19 hl (by decide) rfl (fun ls hl => ?_)
  exact J21 fuel 0 z1 (if 39 < z3 then 39 else z3) 0 hm H locs hw ls (lv_sub hl [4, 5, 3, 2, 1, 0] rfl)
