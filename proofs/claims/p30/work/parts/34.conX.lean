set_option maxHeartbeats 4000000 in
set_option maxRecDepth 100000 in
theorem c_X4_push (l : Launch) {D : va_G} {cy : Nat → ClassId} {A : Nat → Nat} {G : Nat → Bool} {M : Mem} {sz : Nat} {a0 : Nat} {a1 : Nat} (h0 : TT G 3 a0) (h1 : TT G 2 a1)  {z : ((Nat → Bool) × Mem)} (hm : m_X4_push a0 a1 G M = some z) : Met l yX4_push (wm yX4_push cX4_push 3 none) ({ frames := 4, cells := 47, slots := 3497, locals := 150 } : Room) (va_Pc [.ref (A a0), .ref (A a1)] (Pr D cy A G M sz)) (va_Qv (fun A1 : Nat → Nat => ∀ c, inL G c = true → A1 c = A c ∧ inL z.1 c = true) (fun A1 t => Px D cy A1 z.1 (Fr A G sz) z.2 t) (Fr A G sz))  47 3497 (Fr A G sz) := by
  refine ofG (Qc := fun sz => va_Qv (fun A1 : Nat → Nat => ∀ c, inL G c = true → A1 c = A c ∧ inL z.1 c = true) (fun A1 t => Px D cy A1 z.1 (Fr A G sz) z.2 t) (Fr A G sz)) (by decide +kernel) (Nat.le_of_ble_eq_true rfl) ?_
  intro p e s m below meth c hx hb hr hts hown hlocks hml hmn hK hw ls hl
  have hl : lv_has ls 3 [(0, .ref (A a0)), (1, .ref (A a1))] := hl
  have J52 : ∀  (v2 : Nat) (G1 : (Nat → Bool)) (M : Mem) (hv2 : TT G1 2 v2) (A1 : Nat → Nat) (hAA : ∀ c, inL G c = true → A1 c = A c ∧ inL G1 c = true), m_X4_push_b52 a0 a1 v2 G1 M = some z → ∀ (H : Heap) (locs : List Loc), WD D cy (Fr A G s.heap.size) A1 s.heap G1 M H locs → ∀ ls : Array Slot, lv_has ls 3 [(0, .ref (A1 a0)), (1, .ref (A1 a1)), (2, .ref (A1 v2))] → W p l e (headSpec (wm yX4_push cX4_push 3 none) ({ frames := 4, cells := 47, slots := 3497, locals := 150 } : Room)).room s m ([.ref (A a0), .ref (A a1)] : List Value).toArray below meth c H locs 47 3497 (MQ below (va_Qv (fun A1 : Nat → Nat => ∀ c, inL G c = true → A1 c = A c ∧ inL z.1 c = true) (fun A1 t => Px D cy A1 z.1 (Fr A G s.heap.size) z.2 t) (Fr A G s.heap.size)) ([.ref (A a0), .ref (A a1)] : List Value).toArray s 47 3497 (Fr A G s.heap.size)) (F0 m 52 ls []) := by
    intro v2 G1 M hv2 A1 hAA hm H locs hw ls hl
    unfold m_X4_push_b52 at hm
    have h0 := TT.mono h0 (fun c hc => (hAA c hc).2)
    have h1 := TT.mono h1 (fun c hc => (hAA c hc).2)
    refine lv_aload_n hx hb dX4_push_52 rfl (lv_at hl 2 rfl) ?_
    refine lv_aload_n hx hb dX4_push_53 rfl (lv_at hl 1 rfl) ?_
    obtain ⟨z12, e13, hm⟩ := bd_some hm
    refine kv hw Fr_hi (rV hx hb hml hts hown hK hw (c_X3_takeOver l hv2 h1 e13) hv2 (by decide) rfl (mkV 1 hts k_ml_RX4_22 k_im_yX3_takeOver k_se_yX3_takeOver k_in_RX3 k_co_yX3_takeOver hd_X3_takeOver ⟨Nat.le_of_ble_eq_true rfl, Nat.le_of_ble_eq_true rfl⟩) rfl hl.1 rfl (Nat.le_of_ble_eq_true rfl) dX4_push_54 ⟨Nat.le_of_ble_eq_true rfl, Nat.le_of_ble_eq_true rfl⟩) (fun H locs hw => ?_)
    refine lv_aload_n hx hb dX4_push_57 rfl (lv_at hl 0 rfl) ?_
    refine lv_aload_n hx hb dX4_push_58 rfl (lv_at hl 0 rfl) ?_
    refine g3 hx hb hts hown hK hw h0 1 (by decide) (.int (gF z12 a0 1)) rfl k_fl_RX4_17 (fun _ h => h) dX4_push_59 ?_
    refine lv_iconst (v := 1) hx hb dX4_push_62 (by decide) ?_
    refine lv_iadd hx hb dX4_push_63 ?_
    refine lv_iconst (v := 4) hx hb dX4_push_64 (by decide) ?_
    refine lv_irem hx hb dX4_push_65 (by decide) ?_
    refine p3 hx hb hts hown hK hw h0 1 (by decide) k_fl_RX4_17 (fun _ h => h) rfl rfl rfl dX4_push_66 (fun H locs hw => ?_)
    refine lv_aload_n hx hb dX4_push_69 rfl (lv_at hl 0 rfl) ?_
    refine lv_aload_n hx hb dX4_push_70 rfl (lv_at hl 0 rfl) ?_
    refine g3 hx hb hts hown hK hw h0 0 (by decide) (.int (gF (sF a0 1 (((gF z12 a0 1) + 1) - ((gF z12 a0 1) + 1) / 4 * 4) z12) a0 0)) rfl k_fl_RX4_26 (fun _ h => h) dX4_push_71 ?_
    refine lv_iconst (v := 1) hx hb dX4_push_74 (by decide) ?_
    refine lv_iadd hx hb dX4_push_75 ?_
    refine lv_iconst (v := 4) hx hb dX4_push_76 (by decide) ?_
    refine mnI hx hb (hml.trans hl.1.symm) hts hown k_ml_RX4_29 (Nat.le_of_ble_eq_true rfl) (Nat.le_of_ble_eq_true rfl) (Nat.le_of_ble_eq_true rfl) (Nat.le_of_ble_eq_true rfl) dX4_push_77 ?_
    refine p3 hx hb hts hown hK hw h0 0 (by decide) k_fl_RX4_26 (fun _ h => h) rfl rfl rfl dX4_push_80 (fun H locs hw => ?_)
    cases hm
    exact eGV hx hb hr hlocks hw hAA (fun t h => h) (Nat.le_of_ble_eq_true rfl) (Nat.le_of_ble_eq_true rfl) dX4_push_83
  unfold m_X4_push at hm
  revert hw
  suffices K : ∀ (H : Heap) (locs : List Loc), WD D cy (Fr A G s.heap.size) A s.heap G M H locs → W p l e (headSpec (wm yX4_push cX4_push 3 none) ({ frames := 4, cells := 47, slots := 3497, locals := 150 } : Room)).room s m ([.ref (A a0), .ref (A a1)] : List Value).toArray below meth c H locs 0 0 (MQ below (va_Qv (fun A1 : Nat → Nat => ∀ c, inL G c = true → A1 c = A c ∧ inL z.1 c = true) (fun A1 t => Px D cy A1 z.1 (Fr A G s.heap.size) z.2 t) (Fr A G s.heap.size)) ([.ref (A a0), .ref (A a1)] : List Value).toArray s 47 3497 (Fr A G s.heap.size)) (F0 m 0 ls []) from fun hw => K _ _ hw
  intro H locs hw
  refine lv_aload_n hx hb dX4_push_0 rfl (lv_at hl 0 rfl) ?_
  refine g3 hx hb hts hown hK hw h0 1 (by decide) (.int (gF M a0 1)) rfl k_fl_RX4_17 (fun _ h => h) dX4_push_1 ?_
  refine lv_if_lt (tgt := 19) hx hb dX4_push_4 (by decide) (fun hq1 => ?_) (fun hq1 => ?_)
  · have hm := (if_pos hq1).symm.trans hm
    cases hm
    exact eGV hx hb hr hlocks hw (fun c hc => ⟨rfl, hc⟩) (fun t h => h) (Nat.le_of_ble_eq_true rfl) (Nat.le_of_ble_eq_true rfl) dX4_push_19
  · have hm := (if_neg hq1).symm.trans hm
    refine lv_aload_n hx hb dX4_push_7 rfl (lv_at hl 0 rfl) ?_
    refine g3 hx hb hts hown hK hw h0 1 (by decide) (.int (gF M a0 1)) rfl k_fl_RX4_17 (fun _ h => h) dX4_push_8 ?_
    refine lv_aload_n hx hb dX4_push_11 rfl (lv_at hl 0 rfl) ?_
    refine g3 hx hb hts hown hK hw h0 2 (by decide) (.ref (A 2)) rfl k_fl_RX4_11 (fun _ h => h) dX4_push_12 ?_
    have hp2 := sk_r h0
    refine l9 hx hb hK hw hp2 dX4_push_15 ?_
    refine lv_icmp_lt (tgt := 20) hx hb dX4_push_16 (by decide) (fun hq3 => ?_) (fun hq3 => ?_)
    · have hm := (if_pos hq3).symm.trans hm
      refine lv_aload_n hx hb dX4_push_20 rfl (lv_at hl 0 rfl) ?_
      refine g3 hx hb hts hown hK hw h0 2 (by decide) (.ref (A 2)) rfl k_fl_RX4_11 (fun _ h => h) dX4_push_21 ?_
      have hp4 := sk_r h0
      refine lv_aload_n hx hb dX4_push_24 rfl (lv_at hl 0 rfl) ?_
      refine g3 hx hb hts hown hK hw h0 1 (by decide) (.int (gF M a0 1)) rfl k_fl_RX4_17 (fun _ h => h) dX4_push_25 ?_
      obtain ⟨hi5, hm⟩ := ck_some hm
      refine g9q hx hb hK hw hp4 hi5 dX4_push_28 (fun hr6 => ?_) (fun q7 hr6 => ?_)
      · have hm := (on_none hr6).symm.trans hm
        refine lv_astore_nN (lv' := [(2, .null), (0, .ref (A a0)), (1, .ref (A a1))]) hx hb dX4_push_29 rfl hl (by decide) rfl (fun ls hl => ?_)
        refine lv_aload_nN hx hb dX4_push_30 rfl (lv_at hl 0 rfl) ?_
        refine lv_ifnonnullN hx hb dX4_push_31 ?_
        have hni := nI_cl hi5
        refine push_new (i := cl (gF M a0 1)) (ix_lt hi5) h0 hx hb hml hts hown hK Fr_hi hw hl hni (rg_no hr6) (by decide) (fun A9 hAA10 H locs ls hw hl => ?_)
        have hp11 := rg_new (G := G) hi5
        have hl : lv_has ls 3 [(2, .ref (A9 (128 + 64 * cl (gF M a0 1)))), (0, .ref (A9 a0)), (1, .ref (A9 a1))] := by
          simp only [(hAA10 _ h0.2).1, (hAA10 _ h1.2).1]
          exact hl
        have h0 := TT.mono h0 (fun c hc => (hAA10 c hc).2)
        have h1 := TT.mono h1 (fun c hc => (hAA10 c hc).2)
        exact J52 (128 + 64 * cl (gF M a0 1)) (va_up G (cl (gF M a0 1)) true) (ini (128 + 64 * cl (gF M a0 1)) M) hp11 A9 hAA10 hm H locs hw ls (lv_sub hl [1, 2, 0] rfl)
      · have hm := (on_some hr6).symm.trans hm
        have hp8 := rg_T hi5 hr6
        refine lv_astore_n (lv' := [(2, .ref (A q7)), (0, .ref (A a0)), (1, .ref (A a1))]) hx hb dX4_push_29 rfl hl (by decide) rfl (fun ls hl => ?_)
        refine lv_aload_n hx hb dX4_push_30 rfl (lv_at hl 0 rfl) ?_
        refine lv_ifnonnull (tgt := 52) hx hb dX4_push_31 (by decide) ?_
        refine W.widen (k := 47) (n := 3497) (Nat.le_of_ble_eq_true rfl) (Nat.le_of_ble_eq_true rfl) ?_
        exact J52 q7 G M hp8 A (fun c hc => ⟨rfl, hc⟩) hm H locs hw ls (lv_sub hl [1, 2, 0] rfl)
    · have hm := (if_neg hq3).symm.trans hm
      cases hm
      exact eGV hx hb hr hlocks hw (fun c hc => ⟨rfl, hc⟩) (fun t h => h) (Nat.le_of_ble_eq_true rfl) (Nat.le_of_ble_eq_true rfl) dX4_push_19
set_option maxHeartbeats 4000000 in
set_option maxRecDepth 100000 in
theorem c_X4_popInto (l : Launch) {D : va_G} {cy : Nat → ClassId} {A : Nat → Nat} {G : Nat → Bool} {M : Mem} {sz : Nat} {a0 : Nat} {a1 : Nat} (h0 : TT G 3 a0) (h1 : TT G 2 a1)  {z : Mem} (hm : m_X4_popInto a0 a1 G M = some z) : Met l yX4_popInto (wm yX4_popInto cX4_popInto 4 none) ({ frames := 4, cells := 0, slots := 0, locals := 106 } : Room) (va_Pc [.ref (A a0), .ref (A a1)] (Pr D cy A G M sz)) (va_Qv (fun (u : Mem) => u = z) (Po D cy A G (Fr A G sz)) (Fr A G sz))  0 0 (Fr A G sz) := by
  refine ofB (Qc := fun sz => va_Qv (fun (u : Mem) => u = z) (Po D cy A G (Fr A G sz)) (Fr A G sz)) (by decide +kernel) (Nat.le_of_ble_eq_true rfl) ?_
  intro p e s m below meth c hx hb hr hts hown hlocks hml hmn hK hw ls hl
  have hl : lv_has ls 4 [(0, .ref (A a0)), (1, .ref (A a1))] := hl
  have J49 : ∀  (v2 : Int32) (M : Mem), m_X4_popInto_b49 a0 a1 G v2 M = some z → ∀ (H : Heap) (locs : List Loc), WD D cy (Fr A G s.heap.size) A s.heap G M H locs → ∀ ls : Array Slot, lv_has ls 4 [(0, .ref (A a0)), (2, .int v2)] → W p l e (headSpec (wm yX4_popInto cX4_popInto 4 none) ({ frames := 4, cells := 0, slots := 0, locals := 106 } : Room)).room s m ([.ref (A a0), .ref (A a1)] : List Value).toArray below meth c H locs 0 0 (MQ below (va_Qv (fun (u : Mem) => u = z) (Po D cy A G (Fr A G s.heap.size)) (Fr A G s.heap.size)) ([.ref (A a0), .ref (A a1)] : List Value).toArray s 0 0 (Fr A G s.heap.size)) (F0 m 49 ls []) := by
    intro v2 M hm H locs hw ls hl
    unfold m_X4_popInto_b49 at hm
    refine lv_aload_n hx hb dX4_popInto_49 rfl (lv_at hl 0 rfl) ?_
    refine lv_iload_n hx hb dX4_popInto_50 rfl (lv_at hl 1 rfl) ?_
    refine p3 hx hb hts hown hK hw h0 1 (by decide) k_fl_RX4_17 (fun _ h => h) rfl rfl rfl dX4_popInto_51 (fun H locs hw => ?_)
    refine lv_aload_n hx hb dX4_popInto_54 rfl (lv_at hl 0 rfl) ?_
    refine lv_dup hx hb dX4_popInto_55 rfl ?_
    refine g3 hx hb hts hown hK hw h0 0 (by decide) (.int (gF (sF a0 1 v2 M) a0 0)) rfl k_fl_RX4_26 (fun _ h => h) dX4_popInto_56 ?_
    refine lv_iconst (v := 1) hx hb dX4_popInto_59 (by decide) ?_
    refine lv_isub hx hb dX4_popInto_60 ?_
    refine p3 hx hb hts hown hK hw h0 0 (by decide) k_fl_RX4_26 (fun _ h => h) rfl rfl rfl dX4_popInto_61 (fun H locs hw => ?_)
    cases hm
    exact eV hx hb hr hlocks hK hw dX4_popInto_64
  unfold m_X4_popInto at hm
  revert hw
  suffices K : ∀ (H : Heap) (locs : List Loc), WD D cy (Fr A G s.heap.size) A s.heap G M H locs → W p l e (headSpec (wm yX4_popInto cX4_popInto 4 none) ({ frames := 4, cells := 0, slots := 0, locals := 106 } : Room)).room s m ([.ref (A a0), .ref (A a1)] : List Value).toArray below meth c H locs 0 0 (MQ below (va_Qv (fun (u : Mem) => u = z) (Po D cy A G (Fr A G s.heap.size)) (Fr A G s.heap.size)) ([.ref (A a0), .ref (A a1)] : List Value).toArray s 0 0 (Fr A G s.heap.size)) (F0 m 0 ls []) from fun hw => K _ _ hw
  intro H locs hw
  refine lv_aload_n hx hb dX4_popInto_0 rfl (lv_at hl 0 rfl) ?_
  refine g3 hx hb hts hown hK hw h0 1 (by decide) (.int (gF M a0 1)) rfl k_fl_RX4_17 (fun _ h => h) dX4_popInto_1 ?_
  refine lv_iconst (v := 4) hx hb dX4_popInto_4 (by decide) ?_
  refine lv_iadd hx hb dX4_popInto_5 ?_
  refine lv_iconst (v := 1) hx hb dX4_popInto_6 (by decide) ?_
  refine lv_isub hx hb dX4_popInto_7 ?_
  refine lv_iconst (v := 4) hx hb dX4_popInto_8 (by decide) ?_
  refine lv_irem hx hb dX4_popInto_9 (by decide) ?_
  refine lv_istore_n (lv' := [(2, .int ((((gF M a0 1) + 4) - 1) - (((gF M a0 1) + 4) - 1) / 4 * 4)), (0, .ref (A a0)), (1, .ref (A a1))]) hx hb dX4_popInto_10 rfl hl (by decide) rfl (fun ls hl => ?_)
  refine lv_aload_n hx hb dX4_popInto_11 rfl (lv_at hl 1 rfl) ?_
  refine g3 hx hb hts hown hK hw h0 0 (by decide) (.int (gF M a0 0)) rfl k_fl_RX4_26 (fun _ h => h) dX4_popInto_12 ?_
  refine lv_iconst (v := 1) hx hb dX4_popInto_15 (by decide) ?_
  refine lv_icmp_lt (tgt := 32) hx hb dX4_popInto_16 (by decide) (fun hq1 => ?_) (fun hq1 => ?_)
  · have hm := (if_pos hq1).symm.trans hm
    cases hm
    exact eV hx hb hr hlocks hK hw dX4_popInto_32
  · have hm := (if_neg hq1).symm.trans hm
    refine lv_iload_n hx hb dX4_popInto_19 rfl (lv_at hl 0 rfl) ?_
    refine lv_if_lt (tgt := 32) hx hb dX4_popInto_20 (by decide) (fun hq2 => ?_) (fun hq2 => ?_)
    · have hm := (if_pos hq2).symm.trans hm
      cases hm
      exact eV hx hb hr hlocks hK hw dX4_popInto_32
    · have hm := (if_neg hq2).symm.trans hm
      refine lv_iload_n hx hb dX4_popInto_23 rfl (lv_at hl 0 rfl) ?_
      refine lv_aload_n hx hb dX4_popInto_24 rfl (lv_at hl 1 rfl) ?_
      refine g3 hx hb hts hown hK hw h0 2 (by decide) (.ref (A 2)) rfl k_fl_RX4_11 (fun _ h => h) dX4_popInto_25 ?_
      have hp3 := sk_r h0
      refine l9 hx hb hK hw hp3 dX4_popInto_28 ?_
      refine lv_icmp_lt (tgt := 33) hx hb dX4_popInto_29 (by decide) (fun hq4 => ?_) (fun hq4 => ?_)
      · have hm := (if_pos hq4).symm.trans hm
        refine lv_aload_n hx hb dX4_popInto_33 rfl (lv_at hl 1 rfl) ?_
        refine g3 hx hb hts hown hK hw h0 2 (by decide) (.ref (A 2)) rfl k_fl_RX4_11 (fun _ h => h) dX4_popInto_34 ?_
        have hp5 := sk_r h0
        refine lv_iload_n hx hb dX4_popInto_37 rfl (lv_at hl 0 rfl) ?_
        obtain ⟨hi6, hm⟩ := ck_some hm
        refine g9q hx hb hK hw hp5 hi6 dX4_popInto_38 (fun hr7 => ?_) (fun q8 hr7 => ?_)
        · have hm := (on_none hr7).symm.trans hm
          refine lv_astore_nN (lv' := [(3, .null), (2, .int ((((gF M a0 1) + 4) - 1) - (((gF M a0 1) + 4) - 1) / 4 * 4)), (0, .ref (A a0)), (1, .ref (A a1))]) hx hb dX4_popInto_39 rfl hl (by decide) rfl (fun ls hl => ?_)
          refine lv_aload_nN hx hb dX4_popInto_40 rfl (lv_at hl 0 rfl) ?_
          refine lv_ifnullN (tgt := 49) hx hb dX4_popInto_41 (by decide) ?_
          exact J49 ((((gF M a0 1) + 4) - 1) - (((gF M a0 1) + 4) - 1) / 4 * 4) M hm H locs hw ls (lv_sub hl [2, 1] rfl)
        · have hm := (on_some hr7).symm.trans hm
          have hp9 := rg_T hi6 hr7
          refine lv_astore_n (lv' := [(3, .ref (A q8)), (2, .int ((((gF M a0 1) + 4) - 1) - (((gF M a0 1) + 4) - 1) / 4 * 4)), (0, .ref (A a0)), (1, .ref (A a1))]) hx hb dX4_popInto_39 rfl hl (by decide) rfl (fun ls hl => ?_)
          refine lv_aload_n hx hb dX4_popInto_40 rfl (lv_at hl 0 rfl) ?_
          refine lv_ifnull hx hb dX4_popInto_41 ?_
          refine lv_aload_n hx hb dX4_popInto_44 rfl (lv_at hl 3 rfl) ?_
          refine lv_aload_n hx hb dX4_popInto_45 rfl (lv_at hl 0 rfl) ?_
          obtain ⟨z10, e11, hm⟩ := bd_some hm
          refine kv hw Fr_hi (rV hx hb hml hts hown hK hw (c_X3_takeOver l h1 hp9 e11) h1 (by decide) rfl (mkV 1 hts k_ml_RX4_22 k_im_yX3_takeOver k_se_yX3_takeOver k_in_RX3 k_co_yX3_takeOver hd_X3_takeOver ⟨Nat.le_of_ble_eq_true rfl, Nat.le_of_ble_eq_true rfl⟩) rfl hl.1 rfl (Nat.le_of_ble_eq_true rfl) dX4_popInto_46 ⟨Nat.le_of_ble_eq_true rfl, Nat.le_of_ble_eq_true rfl⟩) (fun H locs hw => ?_)
          exact J49 ((((gF M a0 1) + 4) - 1) - (((gF M a0 1) + 4) - 1) / 4 * 4) z10 hm H locs hw ls (lv_sub hl [2, 1] rfl)
      · have hm := (if_neg hq4).symm.trans hm
        cases hm
        exact eV hx hb hr hlocks hK hw dX4_popInto_32
set_option maxHeartbeats 4000000 in
set_option maxRecDepth 100000 in
theorem c_X5_existingNode (l : Launch) {D : va_G} {cy : Nat → ClassId} {A : Nat → Nat} {G : Nat → Bool} {M : Mem} {sz : Nat} {a0 : Nat} {x1 : Int32} (h0 : TT G 4 a0)  {z : Nat} (hm : m_X5_existingNode a0 x1 M = some z) : Met l yX5_existingNode (wm yX5_existingNode cX5_existingNode 3 (some (.object "LedgerStore$Node"))) ({ frames := 1, cells := 0, slots := 0, locals := 40 } : Room) (va_Pc [.ref (A a0), .int x1] (Pr D cy A G M sz)) (va_Qq (fun (r' : Option Nat) (u : Mem) => r' = Option.map A ((some z)) ∧ u = M) (Po D cy A G (Fr A G sz)) (Fr A G sz))  0 0 (Fr A G sz) := by
  refine ofB (Qc := fun sz => va_Qq (fun (r' : Option Nat) (u : Mem) => r' = Option.map A ((some z)) ∧ u = M) (Po D cy A G (Fr A G sz)) (Fr A G sz)) (by decide +kernel) (Nat.le_of_ble_eq_true rfl) ?_
  intro p e s m below meth c hx hb hr hts hown hlocks hml hmn hK hw ls hl
  have hl : lv_has ls 3 [(0, .ref (A a0)), (1, .int x1)] := hl
  unfold m_X5_existingNode at hm
  revert hw
  suffices K : ∀ (H : Heap) (locs : List Loc), WD D cy (Fr A G s.heap.size) A s.heap G M H locs → W p l e (headSpec (wm yX5_existingNode cX5_existingNode 3 (some (.object "LedgerStore$Node"))) ({ frames := 1, cells := 0, slots := 0, locals := 40 } : Room)).room s m ([.ref (A a0), .int x1] : List Value).toArray below meth c H locs 0 0 (MQ below (va_Qq (fun (r' : Option Nat) (u : Mem) => r' = Option.map A ((some z)) ∧ u = M) (Po D cy A G (Fr A G s.heap.size)) (Fr A G s.heap.size)) ([.ref (A a0), .int x1] : List Value).toArray s 0 0 (Fr A G s.heap.size)) (F0 m 0 ls []) from fun hw => K _ _ hw
  intro H locs hw
  refine lv_aload_n hx hb dX5_existingNode_0 rfl (lv_at hl 0 rfl) ?_
  refine g4 hx hb hts hown hK hw h0 0 (by decide) (.ref (A 64)) rfl k_fl_RX5_12 (fun _ h => h) dX5_existingNode_1 ?_
  have hp1 := ls_n h0
  refine lv_iload_n hx hb dX5_existingNode_4 rfl (lv_at hl 1 rfl) ?_
  obtain ⟨z2, e3, hm⟩ := bd_some hm
  refine kq hw Fr_hi (rV hx hb hml hts hown hK hw (c_X3_node l hp1 e3) hp1 (by decide) rfl (mkV 1 hts k_ml_RX5_224 k_im_yX3_node k_se_yX3_node k_in_RX3 k_co_yX3_node hd_X3_node ⟨Nat.le_of_ble_eq_true rfl, Nat.le_of_ble_eq_true rfl⟩) rfl hl.1 rfl (Nat.le_of_ble_eq_true rfl) dX5_existingNode_5 ⟨Nat.le_of_ble_eq_true rfl, Nat.le_of_ble_eq_true rfl⟩) (fun hr4 H locs hw => ?_) (fun q5 hr4 H locs hw => ?_)
  · have hm := (on_none hr4).symm.trans hm
    refine lv_astore_nN (lv' := [(2, .null), (0, .ref (A a0)), (1, .int x1)]) hx hb dX5_existingNode_8 rfl hl (by decide) rfl (fun ls hl => ?_)
    refine lv_aload_nN hx hb dX5_existingNode_9 rfl (lv_at hl 0 rfl) ?_
    refine lv_ifnonnullN hx hb dX5_existingNode_10 ?_
    cases hm
  · have hm := (on_some hr4).symm.trans hm
    have hp6 := t_X3_node hp1 (hr4 ▸ e3)
    refine lv_astore_n (lv' := [(2, .ref (A q5)), (0, .ref (A a0)), (1, .int x1)]) hx hb dX5_existingNode_8 rfl hl (by decide) rfl (fun ls hl => ?_)
    refine lv_aload_n hx hb dX5_existingNode_9 rfl (lv_at hl 0 rfl) ?_
    refine lv_ifnonnull (tgt := 24) hx hb dX5_existingNode_10 (by decide) ?_
    refine lv_aload_n hx hb dX5_existingNode_24 rfl (lv_at hl 0 rfl) ?_
    cases hm
    exact eQ hx hb hr hlocks hK hw dX5_existingNode_25
set_option maxHeartbeats 4000000 in
set_option maxRecDepth 100000 in
theorem c_X5_existingLedger (l : Launch) {D : va_G} {cy : Nat → ClassId} {A : Nat → Nat} {G : Nat → Bool} {M : Mem} {sz : Nat} {a0 : Nat} {x1 : Int32} (h0 : TT G 4 a0)  {z : Nat} (hm : m_X5_existingLedger a0 x1 M = some z) : Met l yX5_existingLedger (wm yX5_existingLedger cX5_existingLedger 3 (some (.object "LedgerStore$Ledger"))) ({ frames := 1, cells := 0, slots := 0, locals := 40 } : Room) (va_Pc [.ref (A a0), .int x1] (Pr D cy A G M sz)) (va_Qq (fun (r' : Option Nat) (u : Mem) => r' = Option.map A ((some z)) ∧ u = M) (Po D cy A G (Fr A G sz)) (Fr A G sz))  0 0 (Fr A G sz) := by
  refine ofB (Qc := fun sz => va_Qq (fun (r' : Option Nat) (u : Mem) => r' = Option.map A ((some z)) ∧ u = M) (Po D cy A G (Fr A G sz)) (Fr A G sz)) (by decide +kernel) (Nat.le_of_ble_eq_true rfl) ?_
  intro p e s m below meth c hx hb hr hts hown hlocks hml hmn hK hw ls hl
  have hl : lv_has ls 3 [(0, .ref (A a0)), (1, .int x1)] := hl
  unfold m_X5_existingLedger at hm
  revert hw
  suffices K : ∀ (H : Heap) (locs : List Loc), WD D cy (Fr A G s.heap.size) A s.heap G M H locs → W p l e (headSpec (wm yX5_existingLedger cX5_existingLedger 3 (some (.object "LedgerStore$Ledger"))) ({ frames := 1, cells := 0, slots := 0, locals := 40 } : Room)).room s m ([.ref (A a0), .int x1] : List Value).toArray below meth c H locs 0 0 (MQ below (va_Qq (fun (r' : Option Nat) (u : Mem) => r' = Option.map A ((some z)) ∧ u = M) (Po D cy A G (Fr A G s.heap.size)) (Fr A G s.heap.size)) ([.ref (A a0), .int x1] : List Value).toArray s 0 0 (Fr A G s.heap.size)) (F0 m 0 ls []) from fun hw => K _ _ hw
  intro H locs hw
  refine lv_aload_n hx hb dX5_existingLedger_0 rfl (lv_at hl 0 rfl) ?_
  refine g4 hx hb hts hown hK hw h0 0 (by decide) (.ref (A 64)) rfl k_fl_RX5_12 (fun _ h => h) dX5_existingLedger_1 ?_
  have hp1 := ls_n h0
  refine lv_iload_n hx hb dX5_existingLedger_4 rfl (lv_at hl 1 rfl) ?_
  obtain ⟨z2, e3, hm⟩ := bd_some hm
  refine kq hw Fr_hi (rV hx hb hml hts hown hK hw (c_X3_ledger l hp1 e3) hp1 (by decide) rfl (mkV 1 hts k_ml_RX5_231 k_im_yX3_ledger k_se_yX3_ledger k_in_RX3 k_co_yX3_ledger hd_X3_ledger ⟨Nat.le_of_ble_eq_true rfl, Nat.le_of_ble_eq_true rfl⟩) rfl hl.1 rfl (Nat.le_of_ble_eq_true rfl) dX5_existingLedger_5 ⟨Nat.le_of_ble_eq_true rfl, Nat.le_of_ble_eq_true rfl⟩) (fun hr4 H locs hw => ?_) (fun q5 hr4 H locs hw => ?_)
  · have hm := (on_none hr4).symm.trans hm
    refine lv_astore_nN (lv' := [(2, .null), (0, .ref (A a0)), (1, .int x1)]) hx hb dX5_existingLedger_8 rfl hl (by decide) rfl (fun ls hl => ?_)
    refine lv_aload_nN hx hb dX5_existingLedger_9 rfl (lv_at hl 0 rfl) ?_
    refine lv_ifnonnullN hx hb dX5_existingLedger_10 ?_
    cases hm
  · have hm := (on_some hr4).symm.trans hm
    have hp6 := t_X3_ledger hp1 (hr4 ▸ e3)
    refine lv_astore_n (lv' := [(2, .ref (A q5)), (0, .ref (A a0)), (1, .int x1)]) hx hb dX5_existingLedger_8 rfl hl (by decide) rfl (fun ls hl => ?_)
    refine lv_aload_n hx hb dX5_existingLedger_9 rfl (lv_at hl 0 rfl) ?_
    refine lv_ifnonnull (tgt := 24) hx hb dX5_existingLedger_10 (by decide) ?_
    refine lv_aload_n hx hb dX5_existingLedger_24 rfl (lv_at hl 0 rfl) ?_
    cases hm
    exact eQ hx hb hr hlocks hK hw dX5_existingLedger_25
set_option maxHeartbeats 4000000 in
set_option maxRecDepth 100000 in
theorem c_X5_requireAppended (l : Launch) {D : va_G} {cy : Nat → ClassId} {A : Nat → Nat} {G : Nat → Bool} {M : Mem} {sz : Nat} {a0 : Nat} {x1 : Int32} (h0 : TT G 0 a0)  {z : Unit} (hm : m_X5_requireAppended a0 x1 M = some z) : Met l yX5_requireAppended (wm yX5_requireAppended cX5_requireAppended 2 none) ({ frames := 1, cells := 0, slots := 0, locals := 40 } : Room) (va_Pc [.ref (A a0), .int x1] (Pr D cy A G M sz)) (va_Qv (fun (u : Mem) => u = M) (Po D cy A G (Fr A G sz)) (Fr A G sz))  0 0 (Fr A G sz) := by
  refine ofB (Qc := fun sz => va_Qv (fun (u : Mem) => u = M) (Po D cy A G (Fr A G sz)) (Fr A G sz)) (by decide +kernel) (Nat.le_of_ble_eq_true rfl) ?_
  intro p e s m below meth c hx hb hr hts hown hlocks hml hmn hK hw ls hl
  have hl : lv_has ls 2 [(0, .ref (A a0)), (1, .int x1)] := hl
  unfold m_X5_requireAppended at hm
  revert hw
  suffices K : ∀ (H : Heap) (locs : List Loc), WD D cy (Fr A G s.heap.size) A s.heap G M H locs → W p l e (headSpec (wm yX5_requireAppended cX5_requireAppended 2 none) ({ frames := 1, cells := 0, slots := 0, locals := 40 } : Room)).room s m ([.ref (A a0), .int x1] : List Value).toArray below meth c H locs 0 0 (MQ below (va_Qv (fun (u : Mem) => u = M) (Po D cy A G (Fr A G s.heap.size)) (Fr A G s.heap.size)) ([.ref (A a0), .int x1] : List Value).toArray s 0 0 (Fr A G s.heap.size)) (F0 m 0 ls []) from fun hw => K _ _ hw
  intro H locs hw
  refine lv_iload_n hx hb dX5_requireAppended_0 rfl (lv_at hl 1 rfl) ?_
  refine lv_if_lt (tgt := 12) hx hb dX5_requireAppended_1 (by decide) (fun hq1 => ?_) (fun hq1 => ?_)
  · have hm := (if_pos hq1).symm.trans hm
    cases hm
  · have hm := (if_neg hq1).symm.trans hm
    refine lv_iload_n hx hb dX5_requireAppended_4 rfl (lv_at hl 1 rfl) ?_
    refine lv_aload_n hx hb dX5_requireAppended_5 rfl (lv_at hl 0 rfl) ?_
    refine g0 hx hb hts hown hK hw h0 5 (by decide) (.int (gF M a0 5)) rfl k_fl_RX5_127 (fun _ h => h) dX5_requireAppended_6 ?_
    refine lv_icmp_lt (tgt := 23) hx hb dX5_requireAppended_9 (by decide) (fun hq2 => ?_) (fun hq2 => ?_)
    · have hm := (if_pos hq2).symm.trans hm
      cases hm
      exact eV hx hb hr hlocks hK hw dX5_requireAppended_23
    · have hm := (if_neg hq2).symm.trans hm
      cases hm
set_option maxHeartbeats 4000000 in
set_option maxRecDepth 100000 in
theorem c_X5_requireFragment (l : Launch) {D : va_G} {cy : Nat → ClassId} {A : Nat → Nat} {G : Nat → Bool} {M : Mem} {sz : Nat} {a0 : Nat} {x1 : Int32} (h0 : TT G 0 a0)  {z : Unit} (hm : m_X5_requireFragment a0 x1 M = some z) : Met l yX5_requireFragment (wm yX5_requireFragment cX5_requireFragment 2 none) ({ frames := 1, cells := 0, slots := 0, locals := 40 } : Room) (va_Pc [.ref (A a0), .int x1] (Pr D cy A G M sz)) (va_Qv (fun (u : Mem) => u = M) (Po D cy A G (Fr A G sz)) (Fr A G sz))  0 0 (Fr A G sz) := by
  refine ofB (Qc := fun sz => va_Qv (fun (u : Mem) => u = M) (Po D cy A G (Fr A G sz)) (Fr A G sz)) (by decide +kernel) (Nat.le_of_ble_eq_true rfl) ?_
  intro p e s m below meth c hx hb hr hts hown hlocks hml hmn hK hw ls hl
  have hl : lv_has ls 2 [(0, .ref (A a0)), (1, .int x1)] := hl
  unfold m_X5_requireFragment at hm
  revert hw
  suffices K : ∀ (H : Heap) (locs : List Loc), WD D cy (Fr A G s.heap.size) A s.heap G M H locs → W p l e (headSpec (wm yX5_requireFragment cX5_requireFragment 2 none) ({ frames := 1, cells := 0, slots := 0, locals := 40 } : Room)).room s m ([.ref (A a0), .int x1] : List Value).toArray below meth c H locs 0 0 (MQ below (va_Qv (fun (u : Mem) => u = M) (Po D cy A G (Fr A G s.heap.size)) (Fr A G s.heap.size)) ([.ref (A a0), .int x1] : List Value).toArray s 0 0 (Fr A G s.heap.size)) (F0 m 0 ls []) from fun hw => K _ _ hw
  intro H locs hw
  refine lv_iload_n hx hb dX5_requireFragment_0 rfl (lv_at hl 1 rfl) ?_
  refine lv_if_lt (tgt := 12) hx hb dX5_requireFragment_1 (by decide) (fun hq1 => ?_) (fun hq1 => ?_)
  · have hm := (if_pos hq1).symm.trans hm
    cases hm
  · have hm := (if_neg hq1).symm.trans hm
    refine lv_iload_n hx hb dX5_requireFragment_4 rfl (lv_at hl 1 rfl) ?_
    refine lv_aload_n hx hb dX5_requireFragment_5 rfl (lv_at hl 0 rfl) ?_
    refine g0 hx hb hts hown hK hw h0 7 (by decide) (.int (gF M a0 7)) rfl k_fl_RX5_196 (fun _ h => h) dX5_requireFragment_6 ?_
    refine lv_icmp_lt (tgt := 23) hx hb dX5_requireFragment_9 (by decide) (fun hq2 => ?_) (fun hq2 => ?_)
    · have hm := (if_pos hq2).symm.trans hm
      cases hm
      exact eV hx hb hr hlocks hK hw dX5_requireFragment_23
    · have hm := (if_neg hq2).symm.trans hm
      cases hm
set_option maxHeartbeats 4000000 in
set_option maxRecDepth 100000 in
theorem c_X5_addNode (l : Launch) {D : va_G} {cy : Nat → ClassId} {A : Nat → Nat} {G : Nat → Bool} {M : Mem} {sz : Nat} {a0 : Nat} (h0 : TT G 4 a0)  {z : (Int32 × (Nat → Bool) × Mem)} (hm : m_X5_addNode a0 G M = some z) : Met l yX5_addNode (wm yX5_addNode cX5_addNode 1 (some .int)) ({ frames := 5, cells := 50, slots := 3520, locals := 172 } : Room) (va_Pc [.ref (A a0)] (Pr D cy A G M sz)) (va_Qi (fun r' (A1 : Nat → Nat) => r' = z.1 ∧ ∀ c, inL G c = true → A1 c = A c ∧ inL z.2.1 c = true) (fun A1 t => Px D cy A1 z.2.1 (Fr A G sz) z.2.2 t) (Fr A G sz))  50 3520 (Fr A G sz) := by
  refine ofG (Qc := fun sz => va_Qi (fun r' (A1 : Nat → Nat) => r' = z.1 ∧ ∀ c, inL G c = true → A1 c = A c ∧ inL z.2.1 c = true) (fun A1 t => Px D cy A1 z.2.1 (Fr A G sz) z.2.2 t) (Fr A G sz)) (by decide +kernel) (Nat.le_of_ble_eq_true rfl) ?_
  intro p e s m below meth c hx hb hr hts hown hlocks hml hmn hK hw ls hl
  have hl : lv_has ls 1 [(0, .ref (A a0))] := hl
  unfold m_X5_addNode at hm
  revert hw
  suffices K : ∀ (H : Heap) (locs : List Loc), WD D cy (Fr A G s.heap.size) A s.heap G M H locs → W p l e (headSpec (wm yX5_addNode cX5_addNode 1 (some .int)) ({ frames := 5, cells := 50, slots := 3520, locals := 172 } : Room)).room s m ([.ref (A a0)] : List Value).toArray below meth c H locs 0 0 (MQ below (va_Qi (fun r' (A1 : Nat → Nat) => r' = z.1 ∧ ∀ c, inL G c = true → A1 c = A c ∧ inL z.2.1 c = true) (fun A1 t => Px D cy A1 z.2.1 (Fr A G s.heap.size) z.2.2 t) (Fr A G s.heap.size)) ([.ref (A a0)] : List Value).toArray s 50 3520 (Fr A G s.heap.size)) (F0 m 0 ls []) from fun hw => K _ _ hw
  intro H locs hw
  refine lv_aload_n hx hb dX5_addNode_0 rfl (lv_at hl 0 rfl) ?_
  refine g4 hx hb hts hown hK hw h0 0 (by decide) (.ref (A 64)) rfl k_fl_RX5_12 (fun _ h => h) dX5_addNode_1 ?_
  have hp1 := ls_n h0
  refine g2 hx hb hts hown hK hw hp1 0 (by decide) (.int (gF M 64 0)) rfl k_fl_RX5_23 (fun _ h => h) dX5_addNode_4 ?_
  refine lv_bipush (v := 8) hx hb dX5_addNode_7 (by decide) ?_
  refine lv_icmp_lt (tgt := 22) hx hb dX5_addNode_9 (by decide) (fun hq2 => ?_) (fun hq2 => ?_)
  · have hm := (if_pos hq2).symm.trans hm
    refine lv_aload_n hx hb dX5_addNode_22 rfl (lv_at hl 0 rfl) ?_
    refine g4 hx hb hts hown hK hw h0 1 (by decide) (.ref (A 1)) rfl k_fl_RX5_19 (fun _ h => h) dX5_addNode_23 ?_
    have hp3 := ls_p h0
    refine lv_aload_n hx hb dX5_addNode_26 rfl (lv_at hl 0 rfl) ?_
    refine g4 hx hb hts hown hK hw h0 0 (by decide) (.ref (A 64)) rfl k_fl_RX5_12 (fun _ h => h) dX5_addNode_27 ?_
    have hp4 := ls_n h0
    obtain ⟨z5, e6, hm⟩ := bd_some hm
    refine kvG hw Fr_hi (rV hx hb hml hts hown hK hw (c_X4_push l hp3 hp4 e6) hp3 (by decide) rfl (mkV 1 hts k_ml_RX5_34 k_im_yX4_push k_se_yX4_push k_in_RX4 k_co_yX4_push hd_X4_push ⟨Nat.le_of_ble_eq_true rfl, Nat.le_of_ble_eq_true rfl⟩) rfl hl.1 rfl (Nat.le_of_ble_eq_true rfl) dX5_addNode_30 ⟨Nat.le_of_ble_eq_true rfl, Nat.le_of_ble_eq_true rfl⟩) (fun A7 hAA8 H locs hw => ?_)
    have hl : lv_has ls 1 [(0, .ref (A7 a0))] := by
      simp only [(hAA8 _ h0.2).1]
      exact hl
    have h0 := TT.mono h0 (fun c hc => (hAA8 c hc).2)
    refine lv_aload_n hx hb dX5_addNode_33 rfl (lv_at hl 0 rfl) ?_
    refine g4 hx hb hts hown hK hw h0 0 (by decide) (.ref (A7 64)) rfl k_fl_RX5_12 (fun _ h => h) dX5_addNode_34 ?_
    have hp9 := ls_n h0
    obtain ⟨z10, e11, hm⟩ := bd_some hm
    refine ki hw Fr_hi (rV hx hb hml hts hown hK hw (c_X3_beginNode l hp9 e11) hp9 (by decide) rfl (mkV 0 hts k_ml_RX5_38 k_im_yX3_beginNode k_se_yX3_beginNode k_in_RX3 k_co_yX3_beginNode hd_X3_beginNode ⟨Nat.le_of_ble_eq_true rfl, Nat.le_of_ble_eq_true rfl⟩) rfl hl.1 rfl (Nat.le_of_ble_eq_true rfl) dX5_addNode_37 ⟨Nat.le_of_ble_eq_true rfl, Nat.le_of_ble_eq_true rfl⟩) (fun H locs hw => ?_)
    cases hm
    exact eGI hx hb hr hlocks hw ⟨rfl, hAA8⟩ (fun t h => h) (Nat.le_of_ble_eq_true rfl) (Nat.le_of_ble_eq_true rfl) dX5_addNode_40
  · have hm := (if_neg hq2).symm.trans hm
    cases hm
set_option maxHeartbeats 4000000 in
set_option maxRecDepth 100000 in
theorem c_X5_crash (l : Launch) {D : va_G} {cy : Nat → ClassId} {A : Nat → Nat} {G : Nat → Bool} {M : Mem} {sz : Nat} {a0 : Nat} {x1 : Int32} (h0 : TT G 4 a0)  {z : (Int32 × (Nat → Bool) × Mem)} (hm : m_X5_crash a0 x1 G M = some z) : Met l yX5_crash (wm yX5_crash cX5_crash 4 (some .int)) ({ frames := 5, cells := 50, slots := 3520, locals := 172 } : Room) (va_Pc [.ref (A a0), .int x1] (Pr D cy A G M sz)) (va_Qi (fun r' (A1 : Nat → Nat) => r' = z.1 ∧ ∀ c, inL G c = true → A1 c = A c ∧ inL z.2.1 c = true) (fun A1 t => Px D cy A1 z.2.1 (Fr A G sz) z.2.2 t) (Fr A G sz))  50 3520 (Fr A G sz) := by
  refine ofG (Qc := fun sz => va_Qi (fun r' (A1 : Nat → Nat) => r' = z.1 ∧ ∀ c, inL G c = true → A1 c = A c ∧ inL z.2.1 c = true) (fun A1 t => Px D cy A1 z.2.1 (Fr A G sz) z.2.2 t) (Fr A G sz)) (by decide +kernel) (Nat.le_of_ble_eq_true rfl) ?_
  intro p e s m below meth c hx hb hr hts hown hlocks hml hmn hK hw ls hl
  have hl : lv_has ls 4 [(0, .ref (A a0)), (1, .int x1)] := hl
  unfold m_X5_crash at hm
  revert hw
  suffices K : ∀ (H : Heap) (locs : List Loc), WD D cy (Fr A G s.heap.size) A s.heap G M H locs → W p l e (headSpec (wm yX5_crash cX5_crash 4 (some .int)) ({ frames := 5, cells := 50, slots := 3520, locals := 172 } : Room)).room s m ([.ref (A a0), .int x1] : List Value).toArray below meth c H locs 0 0 (MQ below (va_Qi (fun r' (A1 : Nat → Nat) => r' = z.1 ∧ ∀ c, inL G c = true → A1 c = A c ∧ inL z.2.1 c = true) (fun A1 t => Px D cy A1 z.2.1 (Fr A G s.heap.size) z.2.2 t) (Fr A G s.heap.size)) ([.ref (A a0), .int x1] : List Value).toArray s 50 3520 (Fr A G s.heap.size)) (F0 m 0 ls []) from fun hw => K _ _ hw
  intro H locs hw
  refine lv_aload_n hx hb dX5_crash_0 rfl (lv_at hl 0 rfl) ?_
  refine lv_iload_n hx hb dX5_crash_1 rfl (lv_at hl 1 rfl) ?_
  obtain ⟨z1, e2, hm⟩ := bd_some hm
  refine kqs hw Fr_hi (rV hx hb hml hts hown hK hw (c_X5_existingNode l h0 e2) h0 (by decide) rfl (mkV 1 hts k_ml_RX5_42 k_im_yX5_existingNode k_se_yX5_existingNode k_in_RX5 k_co_yX5_existingNode hd_X5_existingNode ⟨Nat.le_of_ble_eq_true rfl, Nat.le_of_ble_eq_true rfl⟩) rfl hl.1 rfl (Nat.le_of_ble_eq_true rfl) dX5_crash_2 ⟨Nat.le_of_ble_eq_true rfl, Nat.le_of_ble_eq_true rfl⟩) (fun H locs hw => ?_)
  have hp3 := t_X5_existingNode h0 e2
  refine lv_astore_n (lv' := [(2, .ref (A z1)), (0, .ref (A a0)), (1, .int x1)]) hx hb dX5_crash_5 rfl hl (by decide) rfl (fun ls hl => ?_)
  refine lv_aload_n hx hb dX5_crash_6 rfl (lv_at hl 0 rfl) ?_
  refine g1 hx hb hts hown hK hw hp3 0 (by decide) (.int (gF M z1 0)) rfl k_fl_RX5_46 (fun _ h => h) dX5_crash_7 ?_
  refine lv_if_ne (tgt := 23) hx hb dX5_crash_10 (by decide) (fun hq4 => ?_) (fun hq4 => ?_)
  · have hm := (if_neg hq4).symm.trans hm
    refine lv_aload_n hx hb dX5_crash_23 rfl (lv_at hl 1 rfl) ?_
    refine g4 hx hb hts hown hK hw h0 1 (by decide) (.ref (A 1)) rfl k_fl_RX5_19 (fun _ h => h) dX5_crash_24 ?_
    have hp5 := ls_p h0
    refine lv_aload_n hx hb dX5_crash_27 rfl (lv_at hl 1 rfl) ?_
    refine g4 hx hb hts hown hK hw h0 0 (by decide) (.ref (A 64)) rfl k_fl_RX5_12 (fun _ h => h) dX5_crash_28 ?_
    have hp6 := ls_n h0
    obtain ⟨z7, e8, hm⟩ := bd_some hm
    refine kvG hw Fr_hi (rV hx hb hml hts hown hK hw (c_X4_push l hp5 hp6 e8) hp5 (by decide) rfl (mkV 1 hts k_ml_RX5_34 k_im_yX4_push k_se_yX4_push k_in_RX4 k_co_yX4_push hd_X4_push ⟨Nat.le_of_ble_eq_true rfl, Nat.le_of_ble_eq_true rfl⟩) rfl hl.1 rfl (Nat.le_of_ble_eq_true rfl) dX5_crash_31 ⟨Nat.le_of_ble_eq_true rfl, Nat.le_of_ble_eq_true rfl⟩) (fun A9 hAA10 H locs hw => ?_)
    have hl : lv_has ls 4 [(2, .ref (A9 z1)), (0, .ref (A9 a0)), (1, .int x1)] := by
      simp only [(hAA10 _ hp3.2).1, (hAA10 _ h0.2).1]
      exact hl
    have hp3 := TT.mono hp3 (fun c hc => (hAA10 c hc).2)
    have h0 := TT.mono h0 (fun c hc => (hAA10 c hc).2)
    refine lv_aload_n hx hb dX5_crash_34 rfl (lv_at hl 0 rfl) ?_
    refine g1 hx hb hts hown hK hw hp3 3 (by decide) (.int (gF z7.2 z1 3)) rfl k_fl_RX5_54 (fun _ h => h) dX5_crash_35 ?_
    refine lv_istore_n (lv' := [(3, .int (gF z7.2 z1 3)), (2, .ref (A9 z1)), (0, .ref (A9 a0)), (1, .int x1)]) hx hb dX5_crash_38 rfl hl (by decide) rfl (fun ls hl => ?_)
    refine lv_aload_n hx hb dX5_crash_39 rfl (lv_at hl 1 rfl) ?_
    refine lv_iconst (v := 0) hx hb dX5_crash_40 (by decide) ?_
    refine p1 hx hb hts hown hK hw hp3 0 (by decide) k_fl_RX5_46 (fun _ h => h) rfl (zb_n (by decide)) (zb_f (by decide)) dX5_crash_41 (fun H locs hw => ?_)
    refine lv_aload_n hx hb dX5_crash_44 rfl (lv_at hl 1 rfl) ?_
    refine lv_iconst (v := 0) hx hb dX5_crash_45 (by decide) ?_
    refine p1 hx hb hts hown hK hw hp3 3 (by decide) k_fl_RX5_54 (fun _ h => h) rfl rfl rfl dX5_crash_46 (fun H locs hw => ?_)
    refine lv_iload_n hx hb dX5_crash_49 rfl (lv_at hl 0 rfl) ?_
    cases hm
    exact eGI hx hb hr hlocks hw ⟨rfl, hAA10⟩ (fun t h => h) (Nat.le_of_ble_eq_true rfl) (Nat.le_of_ble_eq_true rfl) dX5_crash_50
  · have hm := (if_pos hq4).symm.trans hm
    cases hm
set_option maxHeartbeats 4000000 in
set_option maxRecDepth 100000 in
theorem c_X5_restart (l : Launch) {D : va_G} {cy : Nat → ClassId} {A : Nat → Nat} {G : Nat → Bool} {M : Mem} {sz : Nat} {a0 : Nat} {x1 : Int32} (h0 : TT G 4 a0)  {z : (Int32 × (Nat → Bool) × Mem)} (hm : m_X5_restart a0 x1 G M = some z) : Met l yX5_restart (wm yX5_restart cX5_restart 3 (some .int)) ({ frames := 5, cells := 50, slots := 3520, locals := 172 } : Room) (va_Pc [.ref (A a0), .int x1] (Pr D cy A G M sz)) (va_Qi (fun r' (A1 : Nat → Nat) => r' = z.1 ∧ ∀ c, inL G c = true → A1 c = A c ∧ inL z.2.1 c = true) (fun A1 t => Px D cy A1 z.2.1 (Fr A G sz) z.2.2 t) (Fr A G sz))  50 3520 (Fr A G sz) := by
  refine ofG (Qc := fun sz => va_Qi (fun r' (A1 : Nat → Nat) => r' = z.1 ∧ ∀ c, inL G c = true → A1 c = A c ∧ inL z.2.1 c = true) (fun A1 t => Px D cy A1 z.2.1 (Fr A G sz) z.2.2 t) (Fr A G sz)) (by decide +kernel) (Nat.le_of_ble_eq_true rfl) ?_
  intro p e s m below meth c hx hb hr hts hown hlocks hml hmn hK hw ls hl
  have hl : lv_has ls 3 [(0, .ref (A a0)), (1, .int x1)] := hl
  unfold m_X5_restart at hm
  revert hw
  suffices K : ∀ (H : Heap) (locs : List Loc), WD D cy (Fr A G s.heap.size) A s.heap G M H locs → W p l e (headSpec (wm yX5_restart cX5_restart 3 (some .int)) ({ frames := 5, cells := 50, slots := 3520, locals := 172 } : Room)).room s m ([.ref (A a0), .int x1] : List Value).toArray below meth c H locs 0 0 (MQ below (va_Qi (fun r' (A1 : Nat → Nat) => r' = z.1 ∧ ∀ c, inL G c = true → A1 c = A c ∧ inL z.2.1 c = true) (fun A1 t => Px D cy A1 z.2.1 (Fr A G s.heap.size) z.2.2 t) (Fr A G s.heap.size)) ([.ref (A a0), .int x1] : List Value).toArray s 50 3520 (Fr A G s.heap.size)) (F0 m 0 ls []) from fun hw => K _ _ hw
  intro H locs hw
  refine lv_aload_n hx hb dX5_restart_0 rfl (lv_at hl 0 rfl) ?_
  refine lv_iload_n hx hb dX5_restart_1 rfl (lv_at hl 1 rfl) ?_
  obtain ⟨z1, e2, hm⟩ := bd_some hm
  refine kqs hw Fr_hi (rV hx hb hml hts hown hK hw (c_X5_existingNode l h0 e2) h0 (by decide) rfl (mkV 1 hts k_ml_RX5_42 k_im_yX5_existingNode k_se_yX5_existingNode k_in_RX5 k_co_yX5_existingNode hd_X5_existingNode ⟨Nat.le_of_ble_eq_true rfl, Nat.le_of_ble_eq_true rfl⟩) rfl hl.1 rfl (Nat.le_of_ble_eq_true rfl) dX5_restart_2 ⟨Nat.le_of_ble_eq_true rfl, Nat.le_of_ble_eq_true rfl⟩) (fun H locs hw => ?_)
  have hp3 := t_X5_existingNode h0 e2
  refine lv_astore_n (lv' := [(2, .ref (A z1)), (0, .ref (A a0)), (1, .int x1)]) hx hb dX5_restart_5 rfl hl (by decide) rfl (fun ls hl => ?_)
  refine lv_aload_n hx hb dX5_restart_6 rfl (lv_at hl 0 rfl) ?_
  refine g1 hx hb hts hown hK hw hp3 0 (by decide) (.int (gF M z1 0)) rfl k_fl_RX5_46 (fun _ h => h) dX5_restart_7 ?_
  refine lv_if_eq (tgt := 23) hx hb dX5_restart_10 (by decide) (fun hq4 => ?_) (fun hq4 => ?_)
  · have hm := (if_pos hq4).symm.trans hm
    refine lv_aload_n hx hb dX5_restart_23 rfl (lv_at hl 1 rfl) ?_
    refine g4 hx hb hts hown hK hw h0 1 (by decide) (.ref (A 1)) rfl k_fl_RX5_19 (fun _ h => h) dX5_restart_24 ?_
    have hp5 := ls_p h0
    refine lv_aload_n hx hb dX5_restart_27 rfl (lv_at hl 1 rfl) ?_
    refine g4 hx hb hts hown hK hw h0 0 (by decide) (.ref (A 64)) rfl k_fl_RX5_12 (fun _ h => h) dX5_restart_28 ?_
    have hp6 := ls_n h0
    obtain ⟨z7, e8, hm⟩ := bd_some hm
    refine kvG hw Fr_hi (rV hx hb hml hts hown hK hw (c_X4_push l hp5 hp6 e8) hp5 (by decide) rfl (mkV 1 hts k_ml_RX5_34 k_im_yX4_push k_se_yX4_push k_in_RX4 k_co_yX4_push hd_X4_push ⟨Nat.le_of_ble_eq_true rfl, Nat.le_of_ble_eq_true rfl⟩) rfl hl.1 rfl (Nat.le_of_ble_eq_true rfl) dX5_restart_31 ⟨Nat.le_of_ble_eq_true rfl, Nat.le_of_ble_eq_true rfl⟩) (fun A9 hAA10 H locs hw => ?_)
    have hl : lv_has ls 3 [(2, .ref (A9 z1)), (0, .ref (A9 a0)), (1, .int x1)] := by
      simp only [(hAA10 _ hp3.2).1, (hAA10 _ h0.2).1]
      exact hl
    have hp3 := TT.mono hp3 (fun c hc => (hAA10 c hc).2)
    have h0 := TT.mono h0 (fun c hc => (hAA10 c hc).2)
    refine lv_aload_n hx hb dX5_restart_34 rfl (lv_at hl 0 rfl) ?_
    refine lv_iconst (v := 1) hx hb dX5_restart_35 (by decide) ?_
    refine p1 hx hb hts hown hK hw hp3 0 (by decide) k_fl_RX5_46 (fun _ h => h) rfl (zb_n (by decide)) (zb_f (by decide)) dX5_restart_36 (fun H locs hw => ?_)
    refine lv_aload_n hx hb dX5_restart_39 rfl (lv_at hl 0 rfl) ?_
    refine g1 hx hb hts hown hK hw hp3 2 (by decide) (.int (gF (sF z1 0 1 z7.2) z1 2)) rfl k_fl_RX5_59 (fun _ h => h) dX5_restart_40 ?_
    cases hm
    exact eGI hx hb hr hlocks hw ⟨rfl, hAA10⟩ (fun t h => h) (Nat.le_of_ble_eq_true rfl) (Nat.le_of_ble_eq_true rfl) dX5_restart_43
  · have hm := (if_neg hq4).symm.trans hm
    cases hm
set_option maxHeartbeats 4000000 in
set_option maxRecDepth 100000 in
theorem c_X5_deliver (l : Launch) {D : va_G} {cy : Nat → ClassId} {A : Nat → Nat} {G : Nat → Bool} {M : Mem} {sz : Nat} {a0 : Nat} {x1 : Int32} (h0 : TT G 4 a0)  {z : (Int32 × (Nat → Bool) × Mem)} (hm : m_X5_deliver a0 x1 G M = some z) : Met l yX5_deliver (wm yX5_deliver cX5_deliver 3 (some .int)) ({ frames := 6, cells := 50, slots := 3520, locals := 172 } : Room) (va_Pc [.ref (A a0), .int x1] (Pr D cy A G M sz)) (va_Qi (fun r' (A1 : Nat → Nat) => r' = z.1 ∧ ∀ c, inL G c = true → A1 c = A c ∧ inL z.2.1 c = true) (fun A1 t => Px D cy A1 z.2.1 (Fr A G sz) z.2.2 t) (Fr A G sz))  50 3520 (Fr A G sz) := by
  refine ofG (Qc := fun sz => va_Qi (fun r' (A1 : Nat → Nat) => r' = z.1 ∧ ∀ c, inL G c = true → A1 c = A c ∧ inL z.2.1 c = true) (fun A1 t => Px D cy A1 z.2.1 (Fr A G sz) z.2.2 t) (Fr A G sz)) (by decide +kernel) (Nat.le_of_ble_eq_true rfl) ?_
  intro p e s m below meth c hx hb hr hts hown hlocks hml hmn hK hw ls hl
  have hl : lv_has ls 3 [(0, .ref (A a0)), (1, .int x1)] := hl
  unfold m_X5_deliver at hm
  revert hw
  suffices K : ∀ (H : Heap) (locs : List Loc), WD D cy (Fr A G s.heap.size) A s.heap G M H locs → W p l e (headSpec (wm yX5_deliver cX5_deliver 3 (some .int)) ({ frames := 6, cells := 50, slots := 3520, locals := 172 } : Room)).room s m ([.ref (A a0), .int x1] : List Value).toArray below meth c H locs 0 0 (MQ below (va_Qi (fun r' (A1 : Nat → Nat) => r' = z.1 ∧ ∀ c, inL G c = true → A1 c = A c ∧ inL z.2.1 c = true) (fun A1 t => Px D cy A1 z.2.1 (Fr A G s.heap.size) z.2.2 t) (Fr A G s.heap.size)) ([.ref (A a0), .int x1] : List Value).toArray s 50 3520 (Fr A G s.heap.size)) (F0 m 0 ls []) from fun hw => K _ _ hw
  intro H locs hw
  refine lv_aload_n hx hb dX5_deliver_0 rfl (lv_at hl 0 rfl) ?_
  refine lv_iload_n hx hb dX5_deliver_1 rfl (lv_at hl 1 rfl) ?_
  obtain ⟨z1, e2, hm⟩ := bd_some hm
  refine kqs hw Fr_hi (rV hx hb hml hts hown hK hw (c_X5_existingNode l h0 e2) h0 (by decide) rfl (mkV 1 hts k_ml_RX5_42 k_im_yX5_existingNode k_se_yX5_existingNode k_in_RX5 k_co_yX5_existingNode hd_X5_existingNode ⟨Nat.le_of_ble_eq_true rfl, Nat.le_of_ble_eq_true rfl⟩) rfl hl.1 rfl (Nat.le_of_ble_eq_true rfl) dX5_deliver_2 ⟨Nat.le_of_ble_eq_true rfl, Nat.le_of_ble_eq_true rfl⟩) (fun H locs hw => ?_)
  have hp3 := t_X5_existingNode h0 e2
  refine lv_astore_n (lv' := [(2, .ref (A z1)), (0, .ref (A a0)), (1, .int x1)]) hx hb dX5_deliver_5 rfl hl (by decide) rfl (fun ls hl => ?_)
  refine lv_aload_n hx hb dX5_deliver_6 rfl (lv_at hl 0 rfl) ?_
  refine g1 hx hb hts hown hK hw hp3 0 (by decide) (.int (gF M z1 0)) rfl k_fl_RX5_46 (fun _ h => h) dX5_deliver_7 ?_
  refine lv_if_ne (tgt := 23) hx hb dX5_deliver_10 (by decide) (fun hq4 => ?_) (fun hq4 => ?_)
  · have hm := (if_neg hq4).symm.trans hm
    refine lv_aload_n hx hb dX5_deliver_23 rfl (lv_at hl 1 rfl) ?_
    refine g4 hx hb hts hown hK hw h0 1 (by decide) (.ref (A 1)) rfl k_fl_RX5_19 (fun _ h => h) dX5_deliver_24 ?_
    have hp5 := ls_p h0
    refine lv_aload_n hx hb dX5_deliver_27 rfl (lv_at hl 1 rfl) ?_
    refine g4 hx hb hts hown hK hw h0 0 (by decide) (.ref (A 64)) rfl k_fl_RX5_12 (fun _ h => h) dX5_deliver_28 ?_
    have hp6 := ls_n h0
    obtain ⟨z7, e8, hm⟩ := bd_some hm
    refine kvG hw Fr_hi (rV hx hb hml hts hown hK hw (c_X4_push l hp5 hp6 e8) hp5 (by decide) rfl (mkV 1 hts k_ml_RX5_34 k_im_yX4_push k_se_yX4_push k_in_RX4 k_co_yX4_push hd_X4_push ⟨Nat.le_of_ble_eq_true rfl, Nat.le_of_ble_eq_true rfl⟩) rfl hl.1 rfl (Nat.le_of_ble_eq_true rfl) dX5_deliver_31 ⟨Nat.le_of_ble_eq_true rfl, Nat.le_of_ble_eq_true rfl⟩) (fun A9 hAA10 H locs hw => ?_)
    have hl : lv_has ls 3 [(2, .ref (A9 z1)), (0, .ref (A9 a0)), (1, .int x1)] := by
      simp only [(hAA10 _ hp3.2).1, (hAA10 _ h0.2).1]
      exact hl
    have hp3 := TT.mono hp3 (fun c hc => (hAA10 c hc).2)
    have h0 := TT.mono h0 (fun c hc => (hAA10 c hc).2)
    refine lv_aload_n hx hb dX5_deliver_34 rfl (lv_at hl 1 rfl) ?_
    refine g4 hx hb hts hown hK hw h0 0 (by decide) (.ref (A9 64)) rfl k_fl_RX5_12 (fun _ h => h) dX5_deliver_35 ?_
    have hp11 := ls_n h0
    refine lv_iload_n hx hb dX5_deliver_38 rfl (lv_at hl 2 rfl) ?_
    obtain ⟨z12, e13, hm⟩ := bd_some hm
    refine ki hw Fr_hi (rV hx hb hml hts hown hK hw (c_X3_processOldest l hp11 e13) hp11 (by decide) rfl (mkV 1 hts k_ml_RX5_64 k_im_yX3_processOldest k_se_yX3_processOldest k_in_RX3 k_co_yX3_processOldest hd_X3_processOldest ⟨Nat.le_of_ble_eq_true rfl, Nat.le_of_ble_eq_true rfl⟩) rfl hl.1 rfl (Nat.le_of_ble_eq_true rfl) dX5_deliver_39 ⟨Nat.le_of_ble_eq_true rfl, Nat.le_of_ble_eq_true rfl⟩) (fun H locs hw => ?_)
    cases hm
    exact eGI hx hb hr hlocks hw ⟨rfl, hAA10⟩ (fun t h => h) (Nat.le_of_ble_eq_true rfl) (Nat.le_of_ble_eq_true rfl) dX5_deliver_42
  · have hm := (if_pos hq4).symm.trans hm
    cases hm
set_option maxHeartbeats 4000000 in
set_option maxRecDepth 100000 in
theorem c_X5_deliverAll (l : Launch) {D : va_G} {cy : Nat → ClassId} {A : Nat → Nat} {G : Nat → Bool} {M : Mem} {sz : Nat} {a0 : Nat} (h0 : TT G 4 a0)  {z : (Int32 × (Nat → Bool) × Mem)} (hm : m_X5_deliverAll a0 G M = some z) : Met l yX5_deliverAll (wm yX5_deliverAll cX5_deliverAll 4 (some .int)) ({ frames := 6, cells := 50, slots := 3520, locals := 172 } : Room) (va_Pc [.ref (A a0)] (Pr D cy A G M sz)) (va_Qi (fun r' (A1 : Nat → Nat) => r' = z.1 ∧ ∀ c, inL G c = true → A1 c = A c ∧ inL z.2.1 c = true) (fun A1 t => Px D cy A1 z.2.1 (Fr A G sz) z.2.2 t) (Fr A G sz))  50 3520 (Fr A G sz) := by
  refine ofG (Qc := fun sz => va_Qi (fun r' (A1 : Nat → Nat) => r' = z.1 ∧ ∀ c, inL G c = true → A1 c = A c ∧ inL z.2.1 c = true) (fun A1 t => Px D cy A1 z.2.1 (Fr A G sz) z.2.2 t) (Fr A G sz)) (by decide +kernel) (Nat.le_of_ble_eq_true rfl) ?_
  intro p e s m below meth c hx hb hr hts hown hlocks hml hmn hK hw ls hl
  have hl : lv_has ls 4 [(0, .ref (A a0))] := hl
  have J33 : ∀ (k15 : Int32 → Int32 → (Nat → Bool) → Mem → Option (Int32 × (Nat → Bool) × Mem)) (jk15 : ∀ (v1 : Int32) (v2 : Int32) (G1 : (Nat → Bool)) (M : Mem) (A1 : Nat → Nat) (hAA : ∀ c, inL G c = true → A1 c = A c ∧ inL G1 c = true), k15 v1 v2 G1 M = some z → ∀ (H : Heap) (locs : List Loc), WD D cy (Fr A G s.heap.size) A1 s.heap G1 M H locs → ∀ ls : Array Slot, lv_has ls 4 [(0, .ref (A1 a0)), (1, .int v1), (2, .int v2)] → W p l e (headSpec (wm yX5_deliverAll cX5_deliverAll 4 (some .int)) ({ frames := 6, cells := 50, slots := 3520, locals := 172 } : Room)).room s m ([.ref (A a0)] : List Value).toArray below meth c H locs 47 3497 (MQ below (va_Qi (fun r' (A1 : Nat → Nat) => r' = z.1 ∧ ∀ c, inL G c = true → A1 c = A c ∧ inL z.2.1 c = true) (fun A1 t => Px D cy A1 z.2.1 (Fr A G s.heap.size) z.2.2 t) (Fr A G s.heap.size)) ([.ref (A a0)] : List Value).toArray s 50 3520 (Fr A G s.heap.size)) (F0 m 15 ls [])) (n : Nat) (v1 : Int32) (v2 : Int32) (v3 : Int32) (G1 : (Nat → Bool)) (M : Mem) (A1 : Nat → Nat) (hAA : ∀ c, inL G c = true → A1 c = A c ∧ inL G1 c = true), m_X5_deliverAll_L33 a0 k15 n v1 v2 v3 G1 M = some z → ∀ (H : Heap) (locs : List Loc), WD D cy (Fr A G s.heap.size) A1 s.heap G1 M H locs → ∀ ls : Array Slot, lv_has ls 4 [(0, .ref (A1 a0)), (1, .int v1), (2, .int v2), (3, .int v3)] → W p l e (headSpec (wm yX5_deliverAll cX5_deliverAll 4 (some .int)) ({ frames := 6, cells := 50, slots := 3520, locals := 172 } : Room)).room s m ([.ref (A a0)] : List Value).toArray below meth c H locs 47 3497 (MQ below (va_Qi (fun r' (A1 : Nat → Nat) => r' = z.1 ∧ ∀ c, inL G c = true → A1 c = A c ∧ inL z.2.1 c = true) (fun A1 t => Px D cy A1 z.2.1 (Fr A G s.heap.size) z.2.2 t) (Fr A G s.heap.size)) ([.ref (A a0)] : List Value).toArray s 50 3520 (Fr A G s.heap.size)) (F0 m 33 ls []) := by
    intro k15 jk15 n
    induction n with
    | zero =>
      intro v1 v2 v3 G1 M A1 hAA hm
      cases (show (none : Option (Int32 × (Nat → Bool) × Mem)) = some z from hm)
    | succ n ih =>
      intro v1 v2 v3 G1 M A1 hAA hm H locs hw ls hl
      have hm := (m_X5_deliverAll_L33_s a0 k15 n v1 v2 v3 G1 M).symm.trans hm
      have h0 := TT.mono h0 (fun c hc => (hAA c hc).2)
      refine lv_iload_n hx hb dX5_deliverAll_33 rfl (lv_at hl 3 rfl) ?_
      refine lv_aload_n hx hb dX5_deliverAll_34 rfl (lv_at hl 0 rfl) ?_
      refine g4 hx hb hts hown hK hw h0 0 (by decide) (.ref (A1 64)) rfl k_fl_RX5_12 (fun _ h => h) dX5_deliverAll_35 ?_
      have hp12 := ls_n h0
      refine g2 hx hb hts hown hK hw hp12 0 (by decide) (.int (gF M 64 0)) rfl k_fl_RX5_23 (fun _ h => h) dX5_deliverAll_38 ?_
      refine lv_icmp_ge (tgt := 76) hx hb dX5_deliverAll_41 (by decide) (fun hq13 => ?_) (fun hq13 => ?_)
      · have hm := (if_pos hq13).symm.trans hm
        refine lv_iinc (v := (v2 + 1)) (lv' := [(2, .int (v2 + 1)), (0, .ref (A1 a0)), (1, .int v1), (3, .int v3)]) hx hb dX5_deliverAll_76 hl (k := 2) rfl rfl (by decide) rfl (fun ls hl => ?_)
        refine lv_goto (tgt := 15) hx hb dX5_deliverAll_79 (by decide) ?_
        exact jk15 v1 (v2 + 1) G1 M A1 hAA hm H locs hw ls (lv_sub hl [1, 2, 0] rfl)
      · have hm := (if_neg hq13).symm.trans hm
        refine lv_aload_n hx hb dX5_deliverAll_44 rfl (lv_at hl 0 rfl) ?_
        refine g4 hx hb hts hown hK hw h0 0 (by decide) (.ref (A1 64)) rfl k_fl_RX5_12 (fun _ h => h) dX5_deliverAll_45 ?_
        have hp14 := ls_n h0
        refine lv_iload_n hx hb dX5_deliverAll_48 rfl (lv_at hl 3 rfl) ?_
        obtain ⟨z15, e16, hm⟩ := bd_some hm
        refine ki hw Fr_hi (rV hx hb hml hts hown hK hw (c_X3_isUp l hp14 e16) hp14 (by decide) rfl (mkV 1 hts k_ml_RX5_72 k_im_yX3_isUp k_se_yX3_isUp k_in_RX3 k_co_yX3_isUp hd_X3_isUp ⟨Nat.le_of_ble_eq_true rfl, Nat.le_of_ble_eq_true rfl⟩) rfl hl.1 rfl (Nat.le_of_ble_eq_true rfl) dX5_deliverAll_49 ⟨Nat.le_of_ble_eq_true rfl, Nat.le_of_ble_eq_true rfl⟩) (fun H locs hw => ?_)
        refine lv_if_eq (tgt := 70) hx hb dX5_deliverAll_52 (by decide) (fun hq17 => ?_) (fun hq17 => ?_)
        · have hm := (if_pos hq17).symm.trans hm
          refine lv_iinc (v := (v3 + 1)) (lv' := [(3, .int (v3 + 1)), (0, .ref (A1 a0)), (1, .int v1), (2, .int v2)]) hx hb dX5_deliverAll_70 hl (k := 3) rfl rfl (by decide) rfl (fun ls hl => ?_)
          refine lv_goto (tgt := 33) hx hb dX5_deliverAll_73 (by decide) ?_
          exact ih v1 v2 (v3 + 1) G1 M A1 hAA hm H locs hw ls (lv_sub hl [1, 2, 3, 0] rfl)
        · have hm := (if_neg hq17).symm.trans hm
          refine lv_aload_n hx hb dX5_deliverAll_55 rfl (lv_at hl 0 rfl) ?_
          refine g4 hx hb hts hown hK hw h0 0 (by decide) (.ref (A1 64)) rfl k_fl_RX5_12 (fun _ h => h) dX5_deliverAll_56 ?_
          have hp18 := ls_n h0
          refine lv_iload_n hx hb dX5_deliverAll_59 rfl (lv_at hl 3 rfl) ?_
          obtain ⟨z19, e20, hm⟩ := bd_some hm
          refine ki hw Fr_hi (rV hx hb hml hts hown hK hw (c_X3_processOldest l hp18 e20) hp18 (by decide) rfl (mkV 1 hts k_ml_RX5_64 k_im_yX3_processOldest k_se_yX3_processOldest k_in_RX3 k_co_yX3_processOldest hd_X3_processOldest ⟨Nat.le_of_ble_eq_true rfl, Nat.le_of_ble_eq_true rfl⟩) rfl hl.1 rfl (Nat.le_of_ble_eq_true rfl) dX5_deliverAll_60 ⟨Nat.le_of_ble_eq_true rfl, Nat.le_of_ble_eq_true rfl⟩) (fun H locs hw => ?_)
          refine lv_iconst (v := 1) hx hb dX5_deliverAll_63 (by decide) ?_
          refine lv_icmp_ne (tgt := 70) hx hb dX5_deliverAll_64 (by decide) (fun hq21 => ?_) (fun hq21 => ?_)
          · have hm := (if_neg hq21).symm.trans hm
            refine lv_iinc (v := (v3 + 1)) (lv' := [(3, .int (v3 + 1)), (0, .ref (A1 a0)), (1, .int v1), (2, .int v2)]) hx hb dX5_deliverAll_70 hl (k := 3) rfl rfl (by decide) rfl (fun ls hl => ?_)
            refine lv_goto (tgt := 33) hx hb dX5_deliverAll_73 (by decide) ?_
            exact ih v1 v2 (v3 + 1) G1 z19.2 A1 hAA hm H locs hw ls (lv_sub hl [1, 2, 3, 0] rfl)
          · have hm := (if_pos hq21).symm.trans hm
            refine lv_iinc (v := (v1 + 1)) (lv' := [(1, .int (v1 + 1)), (0, .ref (A1 a0)), (2, .int v2), (3, .int v3)]) hx hb dX5_deliverAll_67 hl (k := 1) rfl rfl (by decide) rfl (fun ls hl => ?_)
            refine lv_iinc (v := (v3 + 1)) (lv' := [(3, .int (v3 + 1)), (1, .int (v1 + 1)), (0, .ref (A1 a0)), (2, .int v2)]) hx hb dX5_deliverAll_70 hl (k := 3) rfl rfl (by decide) rfl (fun ls hl => ?_)
            refine lv_goto (tgt := 33) hx hb dX5_deliverAll_73 (by decide) ?_
            exact ih (v1 + 1) v2 (v3 + 1) G1 z19.2 A1 hAA hm H locs hw ls (lv_sub hl [2, 1, 3, 0] rfl)
  have J15 : ∀  (n : Nat) (v1 : Int32) (v2 : Int32) (G1 : (Nat → Bool)) (M : Mem) (A1 : Nat → Nat) (hAA : ∀ c, inL G c = true → A1 c = A c ∧ inL G1 c = true), m_X5_deliverAll_L15 a0 n v1 v2 G1 M = some z → ∀ (H : Heap) (locs : List Loc), WD D cy (Fr A G s.heap.size) A1 s.heap G1 M H locs → ∀ ls : Array Slot, lv_has ls 4 [(0, .ref (A1 a0)), (1, .int v1), (2, .int v2)] → W p l e (headSpec (wm yX5_deliverAll cX5_deliverAll 4 (some .int)) ({ frames := 6, cells := 50, slots := 3520, locals := 172 } : Room)).room s m ([.ref (A a0)] : List Value).toArray below meth c H locs 47 3497 (MQ below (va_Qi (fun r' (A1 : Nat → Nat) => r' = z.1 ∧ ∀ c, inL G c = true → A1 c = A c ∧ inL z.2.1 c = true) (fun A1 t => Px D cy A1 z.2.1 (Fr A G s.heap.size) z.2.2 t) (Fr A G s.heap.size)) ([.ref (A a0)] : List Value).toArray s 50 3520 (Fr A G s.heap.size)) (F0 m 15 ls []) := by
    intro n
    induction n with
    | zero =>
      intro v1 v2 G1 M A1 hAA hm
      cases (show (none : Option (Int32 × (Nat → Bool) × Mem)) = some z from hm)
    | succ n ih =>
      intro v1 v2 G1 M A1 hAA hm H locs hw ls hl
      have hm := (m_X5_deliverAll_L15_s a0 n v1 v2 G1 M).symm.trans hm
      have h0 := TT.mono h0 (fun c hc => (hAA c hc).2)
      refine lv_iload_n hx hb dX5_deliverAll_15 rfl (lv_at hl 2 rfl) ?_
      refine lv_bipush (v := 100) hx hb dX5_deliverAll_16 (by decide) ?_
      refine lv_icmp_ge (tgt := 82) hx hb dX5_deliverAll_18 (by decide) (fun hq7 => ?_) (fun hq7 => ?_)
      · have hm := (if_pos hq7).symm.trans hm
        refine lv_iload_n hx hb dX5_deliverAll_82 rfl (lv_at hl 1 rfl) ?_
        cases hm
        exact eGI hx hb hr hlocks hw ⟨rfl, hAA⟩ (fun t h => h) (Nat.le_of_ble_eq_true rfl) (Nat.le_of_ble_eq_true rfl) dX5_deliverAll_83
      · have hm := (if_neg hq7).symm.trans hm
        refine lv_aload_n hx hb dX5_deliverAll_21 rfl (lv_at hl 0 rfl) ?_
        refine g4 hx hb hts hown hK hw h0 0 (by decide) (.ref (A1 64)) rfl k_fl_RX5_12 (fun _ h => h) dX5_deliverAll_22 ?_
        have hp8 := ls_n h0
        obtain ⟨z9, e10, hm⟩ := bd_some hm
        refine ki hw Fr_hi (rV hx hb hml hts hown hK hw (c_X3_anyRequestWaits l hp8 e10) hp8 (by decide) rfl (mkV 0 hts k_ml_RX5_68 k_im_yX3_anyRequestWaits k_se_yX3_anyRequestWaits k_in_RX3 k_co_yX3_anyRequestWaits hd_X3_anyRequestWaits ⟨Nat.le_of_ble_eq_true rfl, Nat.le_of_ble_eq_true rfl⟩) rfl hl.1 rfl (Nat.le_of_ble_eq_true rfl) dX5_deliverAll_25 ⟨Nat.le_of_ble_eq_true rfl, Nat.le_of_ble_eq_true rfl⟩) (fun H locs hw => ?_)
        refine lv_if_eq (tgt := 82) hx hb dX5_deliverAll_28 (by decide) (fun hq11 => ?_) (fun hq11 => ?_)
        · have hm := (if_pos hq11).symm.trans hm
          refine lv_iload_n hx hb dX5_deliverAll_82 rfl (lv_at hl 1 rfl) ?_
          cases hm
          exact eGI hx hb hr hlocks hw ⟨rfl, hAA⟩ (fun t h => h) (Nat.le_of_ble_eq_true rfl) (Nat.le_of_ble_eq_true rfl) dX5_deliverAll_83
        · have hm := (if_neg hq11).symm.trans hm
          refine lv_iconst (v := 0) hx hb dX5_deliverAll_31 (by decide) ?_
          refine lv_istore_n (lv' := [(3, .int 0), (0, .ref (A1 a0)), (1, .int v1), (2, .int v2)]) hx hb dX5_deliverAll_32 rfl hl (by decide) rfl (fun ls hl => ?_)
          exact J33 (fun w0 w1 w2 w3 => m_X5_deliverAll_L15 a0 n w0 w1 w2 w3) (fun w0 w1 w2 w3 f0 f1 hh H locs hw ls hl => ih w0 w1 w2 w3 f0 f1 hh H locs hw ls hl) fuel v1 v2 0 G1 M A1 hAA hm H locs hw ls (lv_sub hl [1, 2, 3, 0] rfl)
  unfold m_X5_deliverAll at hm
  revert hw
  suffices K : ∀ (H : Heap) (locs : List Loc), WD D cy (Fr A G s.heap.size) A s.heap G M H locs → W p l e (headSpec (wm yX5_deliverAll cX5_deliverAll 4 (some .int)) ({ frames := 6, cells := 50, slots := 3520, locals := 172 } : Room)).room s m ([.ref (A a0)] : List Value).toArray below meth c H locs 0 0 (MQ below (va_Qi (fun r' (A1 : Nat → Nat) => r' = z.1 ∧ ∀ c, inL G c = true → A1 c = A c ∧ inL z.2.1 c = true) (fun A1 t => Px D cy A1 z.2.1 (Fr A G s.heap.size) z.2.2 t) (Fr A G s.heap.size)) ([.ref (A a0)] : List Value).toArray s 50 3520 (Fr A G s.heap.size)) (F0 m 0 ls []) from fun hw => K _ _ hw
  intro H locs hw
  refine lv_aload_n hx hb dX5_deliverAll_0 rfl (lv_at hl 0 rfl) ?_
  refine g4 hx hb hts hown hK hw h0 1 (by decide) (.ref (A 1)) rfl k_fl_RX5_19 (fun _ h => h) dX5_deliverAll_1 ?_
  have hp1 := ls_p h0
  refine lv_aload_n hx hb dX5_deliverAll_4 rfl (lv_at hl 0 rfl) ?_
  refine g4 hx hb hts hown hK hw h0 0 (by decide) (.ref (A 64)) rfl k_fl_RX5_12 (fun _ h => h) dX5_deliverAll_5 ?_
  have hp2 := ls_n h0
  obtain ⟨z3, e4, hm⟩ := bd_some hm
  refine kvG hw Fr_hi (rV hx hb hml hts hown hK hw (c_X4_push l hp1 hp2 e4) hp1 (by decide) rfl (mkV 1 hts k_ml_RX5_34 k_im_yX4_push k_se_yX4_push k_in_RX4 k_co_yX4_push hd_X4_push ⟨Nat.le_of_ble_eq_true rfl, Nat.le_of_ble_eq_true rfl⟩) rfl hl.1 rfl (Nat.le_of_ble_eq_true rfl) dX5_deliverAll_8 ⟨Nat.le_of_ble_eq_true rfl, Nat.le_of_ble_eq_true rfl⟩) (fun A5 hAA6 H locs hw => ?_)
  have hl : lv_has ls 4 [(0, .ref (A5 a0))] := by
    simp only [(hAA6 _ h0.2).1]
    exact hl
  have h0 := TT.mono h0 (fun c hc => (hAA6 c hc).2)
  refine lv_iconst (v := 0) hx hb dX5_deliverAll_11 (by decide) ?_
  refine lv_istore_n (lv' := [(1, .int 0), (0, .ref (A5 a0))]) hx hb dX5_deliverAll_12 rfl hl (by decide) rfl (fun ls hl => ?_)
  refine lv_iconst (v := 0) hx hb dX5_deliverAll_13 (by decide) ?_
  refine lv_istore_n (lv' := [(2, .int 0), (1, .int 0), (0, .ref (A5 a0))]) hx hb dX5_deliverAll_14 rfl hl (by decide) rfl (fun ls hl => ?_)
  exact J15 fuel 0 0 z3.1 z3.2 A5 hAA6 hm H locs hw ls (lv_sub hl [2, 1, 0] rfl)
set_option maxHeartbeats 4000000 in
set_option maxRecDepth 100000 in
theorem c_X5_inboxLength (l : Launch) {D : va_G} {cy : Nat → ClassId} {A : Nat → Nat} {G : Nat → Bool} {M : Mem} {sz : Nat} {a0 : Nat} {x1 : Int32} (h0 : TT G 4 a0)  {z : Int32} (hm : m_X5_inboxLength a0 x1 M = some z) : Met l yX5_inboxLength (wm yX5_inboxLength cX5_inboxLength 2 (some .int)) ({ frames := 2, cells := 0, slots := 0, locals := 62 } : Room) (va_Pc [.ref (A a0), .int x1] (Pr D cy A G M sz)) (va_Qi (fun (r' : Int32) (u : Mem) => r' = z ∧ u = M) (Po D cy A G (Fr A G sz)) (Fr A G sz))  0 0 (Fr A G sz) := by
  refine ofB (Qc := fun sz => va_Qi (fun (r' : Int32) (u : Mem) => r' = z ∧ u = M) (Po D cy A G (Fr A G sz)) (Fr A G sz)) (by decide +kernel) (Nat.le_of_ble_eq_true rfl) ?_
  intro p e s m below meth c hx hb hr hts hown hlocks hml hmn hK hw ls hl
  have hl : lv_has ls 2 [(0, .ref (A a0)), (1, .int x1)] := hl
  unfold m_X5_inboxLength at hm
  revert hw
  suffices K : ∀ (H : Heap) (locs : List Loc), WD D cy (Fr A G s.heap.size) A s.heap G M H locs → W p l e (headSpec (wm yX5_inboxLength cX5_inboxLength 2 (some .int)) ({ frames := 2, cells := 0, slots := 0, locals := 62 } : Room)).room s m ([.ref (A a0), .int x1] : List Value).toArray below meth c H locs 0 0 (MQ below (va_Qi (fun (r' : Int32) (u : Mem) => r' = z ∧ u = M) (Po D cy A G (Fr A G s.heap.size)) (Fr A G s.heap.size)) ([.ref (A a0), .int x1] : List Value).toArray s 0 0 (Fr A G s.heap.size)) (F0 m 0 ls []) from fun hw => K _ _ hw
  intro H locs hw
  refine lv_aload_n hx hb dX5_inboxLength_0 rfl (lv_at hl 0 rfl) ?_
  refine lv_iload_n hx hb dX5_inboxLength_1 rfl (lv_at hl 1 rfl) ?_
  obtain ⟨z1, e2, hm⟩ := bd_some hm
  refine kqs hw Fr_hi (rV hx hb hml hts hown hK hw (c_X5_existingNode l h0 e2) h0 (by decide) rfl (mkV 1 hts k_ml_RX5_42 k_im_yX5_existingNode k_se_yX5_existingNode k_in_RX5 k_co_yX5_existingNode hd_X5_existingNode ⟨Nat.le_of_ble_eq_true rfl, Nat.le_of_ble_eq_true rfl⟩) rfl hl.1 rfl (Nat.le_of_ble_eq_true rfl) dX5_inboxLength_2 ⟨Nat.le_of_ble_eq_true rfl, Nat.le_of_ble_eq_true rfl⟩) (fun H locs hw => ?_)
  have hp3 := t_X5_existingNode h0 e2
  refine g1 hx hb hts hown hK hw hp3 3 (by decide) (.int (gF M z1 3)) rfl k_fl_RX5_54 (fun _ h => h) dX5_inboxLength_5 ?_
  cases hm
  exact eI hx hb hr hlocks hK hw dX5_inboxLength_8
set_option maxHeartbeats 4000000 in
set_option maxRecDepth 100000 in
theorem c_X5_weight (l : Launch) {D : va_G} {cy : Nat → ClassId} {A : Nat → Nat} {G : Nat → Bool} {M : Mem} {sz : Nat} {a0 : Nat} {x1 : Int32} (h0 : TT G 4 a0)  {z : Int32} (hm : m_X5_weight a0 x1 M = some z) : Met l yX5_weight (wm yX5_weight cX5_weight 2 (some .int)) ({ frames := 2, cells := 0, slots := 0, locals := 62 } : Room) (va_Pc [.ref (A a0), .int x1] (Pr D cy A G M sz)) (va_Qi (fun (r' : Int32) (u : Mem) => r' = z ∧ u = M) (Po D cy A G (Fr A G sz)) (Fr A G sz))  0 0 (Fr A G sz) := by
  refine ofB (Qc := fun sz => va_Qi (fun (r' : Int32) (u : Mem) => r' = z ∧ u = M) (Po D cy A G (Fr A G sz)) (Fr A G sz)) (by decide +kernel) (Nat.le_of_ble_eq_true rfl) ?_
  intro p e s m below meth c hx hb hr hts hown hlocks hml hmn hK hw ls hl
  have hl : lv_has ls 2 [(0, .ref (A a0)), (1, .int x1)] := hl
  unfold m_X5_weight at hm
  revert hw
  suffices K : ∀ (H : Heap) (locs : List Loc), WD D cy (Fr A G s.heap.size) A s.heap G M H locs → W p l e (headSpec (wm yX5_weight cX5_weight 2 (some .int)) ({ frames := 2, cells := 0, slots := 0, locals := 62 } : Room)).room s m ([.ref (A a0), .int x1] : List Value).toArray below meth c H locs 0 0 (MQ below (va_Qi (fun (r' : Int32) (u : Mem) => r' = z ∧ u = M) (Po D cy A G (Fr A G s.heap.size)) (Fr A G s.heap.size)) ([.ref (A a0), .int x1] : List Value).toArray s 0 0 (Fr A G s.heap.size)) (F0 m 0 ls []) from fun hw => K _ _ hw
  intro H locs hw
  refine lv_aload_n hx hb dX5_weight_0 rfl (lv_at hl 0 rfl) ?_
  refine lv_iload_n hx hb dX5_weight_1 rfl (lv_at hl 1 rfl) ?_
  obtain ⟨z1, e2, hm⟩ := bd_some hm
  refine kqs hw Fr_hi (rV hx hb hml hts hown hK hw (c_X5_existingNode l h0 e2) h0 (by decide) rfl (mkV 1 hts k_ml_RX5_42 k_im_yX5_existingNode k_se_yX5_existingNode k_in_RX5 k_co_yX5_existingNode hd_X5_existingNode ⟨Nat.le_of_ble_eq_true rfl, Nat.le_of_ble_eq_true rfl⟩) rfl hl.1 rfl (Nat.le_of_ble_eq_true rfl) dX5_weight_2 ⟨Nat.le_of_ble_eq_true rfl, Nat.le_of_ble_eq_true rfl⟩) (fun H locs hw => ?_)
  have hp3 := t_X5_existingNode h0 e2
  refine g1 hx hb hts hown hK hw hp3 2 (by decide) (.int (gF M z1 2)) rfl k_fl_RX5_59 (fun _ h => h) dX5_weight_5 ?_
  cases hm
  exact eI hx hb hr hlocks hK hw dX5_weight_8
set_option maxHeartbeats 4000000 in
set_option maxRecDepth 100000 in
theorem c_X5_isFenced (l : Launch) {D : va_G} {cy : Nat → ClassId} {A : Nat → Nat} {G : Nat → Bool} {M : Mem} {sz : Nat} {a0 : Nat} {x1 : Int32} {x2 : Int32} (h0 : TT G 4 a0)  {z : Int32} (hm : m_X5_isFenced a0 x1 x2 M = some z) : Met l yX5_isFenced (wm yX5_isFenced cX5_isFenced 4 (some .boolean)) ({ frames := 2, cells := 0, slots := 0, locals := 62 } : Room) (va_Pc [.ref (A a0), .int x1, .int x2] (Pr D cy A G M sz)) (va_Qi (fun (r' : Int32) (u : Mem) => r' = z ∧ u = M) (Po D cy A G (Fr A G sz)) (Fr A G sz))  0 0 (Fr A G sz) := by
  refine ofB (Qc := fun sz => va_Qi (fun (r' : Int32) (u : Mem) => r' = z ∧ u = M) (Po D cy A G (Fr A G sz)) (Fr A G sz)) (by decide +kernel) (Nat.le_of_ble_eq_true rfl) ?_
  intro p e s m below meth c hx hb hr hts hown hlocks hml hmn hK hw ls hl
  have hl : lv_has ls 4 [(0, .ref (A a0)), (1, .int x1), (2, .int x2)] := hl
  unfold m_X5_isFenced at hm
  revert hw
  suffices K : ∀ (H : Heap) (locs : List Loc), WD D cy (Fr A G s.heap.size) A s.heap G M H locs → W p l e (headSpec (wm yX5_isFenced cX5_isFenced 4 (some .boolean)) ({ frames := 2, cells := 0, slots := 0, locals := 62 } : Room)).room s m ([.ref (A a0), .int x1, .int x2] : List Value).toArray below meth c H locs 0 0 (MQ below (va_Qi (fun (r' : Int32) (u : Mem) => r' = z ∧ u = M) (Po D cy A G (Fr A G s.heap.size)) (Fr A G s.heap.size)) ([.ref (A a0), .int x1, .int x2] : List Value).toArray s 0 0 (Fr A G s.heap.size)) (F0 m 0 ls []) from fun hw => K _ _ hw
  intro H locs hw
  refine lv_aload_n hx hb dX5_isFenced_0 rfl (lv_at hl 0 rfl) ?_
  refine lv_iload_n hx hb dX5_isFenced_1 rfl (lv_at hl 1 rfl) ?_
  obtain ⟨z1, e2, hm⟩ := bd_some hm
  refine kqs hw Fr_hi (rV hx hb hml hts hown hK hw (c_X5_existingNode l h0 e2) h0 (by decide) rfl (mkV 1 hts k_ml_RX5_42 k_im_yX5_existingNode k_se_yX5_existingNode k_in_RX5 k_co_yX5_existingNode hd_X5_existingNode ⟨Nat.le_of_ble_eq_true rfl, Nat.le_of_ble_eq_true rfl⟩) rfl hl.1 rfl (Nat.le_of_ble_eq_true rfl) dX5_isFenced_2 ⟨Nat.le_of_ble_eq_true rfl, Nat.le_of_ble_eq_true rfl⟩) (fun H locs hw => ?_)
  have hp3 := t_X5_existingNode h0 e2
  refine lv_astore_n (lv' := [(3, .ref (A z1)), (0, .ref (A a0)), (1, .int x1), (2, .int x2)]) hx hb dX5_isFenced_5 rfl hl (by decide) rfl (fun ls hl => ?_)
  refine lv_aload_n hx hb dX5_isFenced_6 rfl (lv_at hl 1 rfl) ?_
  refine lv_iload_n hx hb dX5_isFenced_7 rfl (lv_at hl 3 rfl) ?_
  obtain ⟨z4, e5, hm⟩ := bd_some hm
  refine kqs hw Fr_hi (rV hx hb hml hts hown hK hw (c_X5_existingLedger l h0 e5) h0 (by decide) rfl (mkV 1 hts k_ml_RX5_80 k_im_yX5_existingLedger k_se_yX5_existingLedger k_in_RX5 k_co_yX5_existingLedger hd_X5_existingLedger ⟨Nat.le_of_ble_eq_true rfl, Nat.le_of_ble_eq_true rfl⟩) rfl hl.1 rfl (Nat.le_of_ble_eq_true rfl) dX5_isFenced_8 ⟨Nat.le_of_ble_eq_true rfl, Nat.le_of_ble_eq_true rfl⟩) (fun H locs hw => ?_)
  have hp6 := t_X5_existingLedger h0 e5
  refine lv_pop hx hb dX5_isFenced_11 rfl ?_
  refine lv_aload_n hx hb dX5_isFenced_12 rfl (lv_at hl 0 rfl) ?_
  refine lv_iload_n hx hb dX5_isFenced_13 rfl (lv_at hl 3 rfl) ?_
  obtain ⟨z7, e8, hm⟩ := bd_some hm
  refine ki hw Fr_hi (rV hx hb hml hts hown hK hw (c_X1_isFencedFor l hp3 e8) hp3 (by decide) rfl (mkV 1 hts k_ml_RX5_84 k_im_yX1_isFencedFor k_se_yX1_isFencedFor k_in_RX1 k_co_yX1_isFencedFor hd_X1_isFencedFor ⟨Nat.le_of_ble_eq_true rfl, Nat.le_of_ble_eq_true rfl⟩) rfl hl.1 rfl (Nat.le_of_ble_eq_true rfl) dX5_isFenced_14 ⟨Nat.le_of_ble_eq_true rfl, Nat.le_of_ble_eq_true rfl⟩) (fun H locs hw => ?_)
  obtain ⟨hz9, hm⟩ := ck_some hm
  cases hm
  exact eZ hz9 hx hb hr hlocks hK hw dX5_isFenced_17
set_option maxHeartbeats 4000000 in
set_option maxRecDepth 100000 in
theorem c_X5_rejections (l : Launch) {D : va_G} {cy : Nat → ClassId} {A : Nat → Nat} {G : Nat → Bool} {M : Mem} {sz : Nat} {a0 : Nat} (h0 : TT G 4 a0)   : Met l yX5_rejections (wm yX5_rejections cX5_rejections 1 (some .int)) ({ frames := 0, cells := 0, slots := 0, locals := 0 } : Room) (va_Pc [.ref (A a0)] (Pr D cy A G M sz)) (va_Qi (fun (r' : Int32) (u : Mem) => r' = (m_X5_rejections a0 M) ∧ u = M) (Po D cy A G (Fr A G sz)) (Fr A G sz))  0 0 (Fr A G sz) := by
  refine ofB (Qc := fun sz => va_Qi (fun (r' : Int32) (u : Mem) => r' = (m_X5_rejections a0 M) ∧ u = M) (Po D cy A G (Fr A G sz)) (Fr A G sz)) (by decide +kernel) (Nat.le_of_ble_eq_true rfl) ?_
  intro p e s m below meth c hx hb hr hts hown hlocks hml hmn hK hw ls hl
  have hl : lv_has ls 1 [(0, .ref (A a0))] := hl
  generalize hm : m_X5_rejections a0 M = z
  unfold m_X5_rejections at hm
  revert hw
  suffices K : ∀ (H : Heap) (locs : List Loc), WD D cy (Fr A G s.heap.size) A s.heap G M H locs → W p l e (headSpec (wm yX5_rejections cX5_rejections 1 (some .int)) ({ frames := 0, cells := 0, slots := 0, locals := 0 } : Room)).room s m ([.ref (A a0)] : List Value).toArray below meth c H locs 0 0 (MQ below (va_Qi (fun (r' : Int32) (u : Mem) => r' = z ∧ u = M) (Po D cy A G (Fr A G s.heap.size)) (Fr A G s.heap.size)) ([.ref (A a0)] : List Value).toArray s 0 0 (Fr A G s.heap.size)) (F0 m 0 ls []) from fun hw => K _ _ hw
  intro H locs hw
  refine lv_aload_n hx hb dX5_rejections_0 rfl (lv_at hl 0 rfl) ?_
  refine g4 hx hb hts hown hK hw h0 0 (by decide) (.ref (A 64)) rfl k_fl_RX5_12 (fun _ h => h) dX5_rejections_1 ?_
  have hp1 := ls_n h0
  refine g2 hx hb hts hown hK hw hp1 2 (by decide) (.int (gF M 64 2)) rfl k_fl_RX5_87 (fun _ h => h) dX5_rejections_4 ?_
  cases hm
  exact eI hx hb hr hlocks hK hw dX5_rejections_7
set_option maxHeartbeats 4000000 in
set_option maxRecDepth 100000 in
theorem c_X5_createLedger (l : Launch) {D : va_G} {cy : Nat → ClassId} {A : Nat → Nat} {G : Nat → Bool} {M : Mem} {sz : Nat} {a0 : Nat} {x1 : Int32} {x2 : Int32} {x3 : Int32} (h0 : TT G 4 a0)  {z : (Int32 × (Nat → Bool) × Mem)} (hm : m_X5_createLedger a0 x1 x2 x3 G M = some z) : Met l yX5_createLedger (wm yX5_createLedger cX5_createLedger 4 (some .int)) ({ frames := 5, cells := 50, slots := 3520, locals := 172 } : Room) (va_Pc [.ref (A a0), .int x1, .int x2, .int x3] (Pr D cy A G M sz)) (va_Qi (fun r' (A1 : Nat → Nat) => r' = z.1 ∧ ∀ c, inL G c = true → A1 c = A c ∧ inL z.2.1 c = true) (fun A1 t => Px D cy A1 z.2.1 (Fr A G sz) z.2.2 t) (Fr A G sz))  50 3520 (Fr A G sz) := by
  refine ofG (Qc := fun sz => va_Qi (fun r' (A1 : Nat → Nat) => r' = z.1 ∧ ∀ c, inL G c = true → A1 c = A c ∧ inL z.2.1 c = true) (fun A1 t => Px D cy A1 z.2.1 (Fr A G sz) z.2.2 t) (Fr A G sz)) (by decide +kernel) (Nat.le_of_ble_eq_true rfl) ?_
  intro p e s m below meth c hx hb hr hts hown hlocks hml hmn hK hw ls hl
  have hl : lv_has ls 4 [(0, .ref (A a0)), (1, .int x1), (2, .int x2), (3, .int x3)] := hl
  unfold m_X5_createLedger at hm
  revert hw
  suffices K : ∀ (H : Heap) (locs : List Loc), WD D cy (Fr A G s.heap.size) A s.heap G M H locs → W p l e (headSpec (wm yX5_createLedger cX5_createLedger 4 (some .int)) ({ frames := 5, cells := 50, slots := 3520, locals := 172 } : Room)).room s m ([.ref (A a0), .int x1, .int x2, .int x3] : List Value).toArray below meth c H locs 0 0 (MQ below (va_Qi (fun r' (A1 : Nat → Nat) => r' = z.1 ∧ ∀ c, inL G c = true → A1 c = A c ∧ inL z.2.1 c = true) (fun A1 t => Px D cy A1 z.2.1 (Fr A G s.heap.size) z.2.2 t) (Fr A G s.heap.size)) ([.ref (A a0), .int x1, .int x2, .int x3] : List Value).toArray s 50 3520 (Fr A G s.heap.size)) (F0 m 0 ls []) from fun hw => K _ _ hw
  intro H locs hw
  refine lv_iload_n hx hb dX5_createLedger_0 rfl (lv_at hl 1 rfl) ?_
  refine lv_iconst (v := 1) hx hb dX5_createLedger_1 (by decide) ?_
  refine lv_icmp_lt (tgt := 10) hx hb dX5_createLedger_2 (by decide) (fun hq1 => ?_) (fun hq1 => ?_)
  · have hm := (if_pos hq1).symm.trans hm
    cases hm
  · have hm := (if_neg hq1).symm.trans hm
    refine lv_iload_n hx hb dX5_createLedger_5 rfl (lv_at hl 1 rfl) ?_
    refine lv_iconst (v := 5) hx hb dX5_createLedger_6 (by decide) ?_
    refine lv_icmp_le (tgt := 20) hx hb dX5_createLedger_7 (by decide) (fun hq2 => ?_) (fun hq2 => ?_)
    · have hm := (if_pos hq2).symm.trans hm
      refine lv_iload_n hx hb dX5_createLedger_20 rfl (lv_at hl 2 rfl) ?_
      refine lv_iconst (v := 1) hx hb dX5_createLedger_21 (by decide) ?_
      refine lv_icmp_lt (tgt := 30) hx hb dX5_createLedger_22 (by decide) (fun hq3 => ?_) (fun hq3 => ?_)
      · have hm := (if_pos hq3).symm.trans hm
        cases hm
      · have hm := (if_neg hq3).symm.trans hm
        refine lv_iload_n hx hb dX5_createLedger_25 rfl (lv_at hl 2 rfl) ?_
        refine lv_iload_n hx hb dX5_createLedger_26 rfl (lv_at hl 1 rfl) ?_
        refine lv_icmp_le (tgt := 40) hx hb dX5_createLedger_27 (by decide) (fun hq4 => ?_) (fun hq4 => ?_)
        · have hm := (if_pos hq4).symm.trans hm
          refine lv_iload_n hx hb dX5_createLedger_40 rfl (lv_at hl 3 rfl) ?_
          refine lv_iconst (v := 1) hx hb dX5_createLedger_41 (by decide) ?_
          refine lv_icmp_lt (tgt := 50) hx hb dX5_createLedger_42 (by decide) (fun hq5 => ?_) (fun hq5 => ?_)
          · have hm := (if_pos hq5).symm.trans hm
            cases hm
          · have hm := (if_neg hq5).symm.trans hm
            refine lv_iload_n hx hb dX5_createLedger_45 rfl (lv_at hl 3 rfl) ?_
            refine lv_iload_n hx hb dX5_createLedger_46 rfl (lv_at hl 2 rfl) ?_
            refine lv_icmp_le (tgt := 60) hx hb dX5_createLedger_47 (by decide) (fun hq6 => ?_) (fun hq6 => ?_)
            · have hm := (if_pos hq6).symm.trans hm
              refine lv_aload_n hx hb dX5_createLedger_60 rfl (lv_at hl 0 rfl) ?_
              refine g4 hx hb hts hown hK hw h0 0 (by decide) (.ref (A 64)) rfl k_fl_RX5_12 (fun _ h => h) dX5_createLedger_61 ?_
              have hp7 := ls_n h0
              refine g2 hx hb hts hown hK hw hp7 1 (by decide) (.int (gF M 64 1)) rfl k_fl_RX5_99 (fun _ h => h) dX5_createLedger_64 ?_
              refine lv_iconst (v := 4) hx hb dX5_createLedger_67 (by decide) ?_
              refine lv_icmp_lt (tgt := 81) hx hb dX5_createLedger_68 (by decide) (fun hq8 => ?_) (fun hq8 => ?_)
              · have hm := (if_pos hq8).symm.trans hm
                refine lv_aload_n hx hb dX5_createLedger_81 rfl (lv_at hl 0 rfl) ?_
                refine g4 hx hb hts hown hK hw h0 0 (by decide) (.ref (A 64)) rfl k_fl_RX5_12 (fun _ h => h) dX5_createLedger_82 ?_
                have hp9 := ls_n h0
                obtain ⟨z10, e11, hm⟩ := bd_some hm
                refine ki hw Fr_hi (rV hx hb hml hts hown hK hw (c_X3_upMask l hp9 e11) hp9 (by decide) rfl (mkV 0 hts k_ml_RX5_104 k_im_yX3_upMask k_se_yX3_upMask k_in_RX3 k_co_yX3_upMask hd_X3_upMask ⟨Nat.le_of_ble_eq_true rfl, Nat.le_of_ble_eq_true rfl⟩) rfl hl.1 rfl (Nat.le_of_ble_eq_true rfl) dX5_createLedger_85 ⟨Nat.le_of_ble_eq_true rfl, Nat.le_of_ble_eq_true rfl⟩) (fun H locs hw => ?_)
                refine ki hw Fr_hi (rS hx hb hml hts hown hK hw (c_J6_bitCount_0f7a4 l z10) (mkS 1 hts k_ml_RX5_107 k_st_yJ6_bitCount_0f7a4 k_in_RJ6 k_co_yJ6_bitCount_0f7a4 hd_J6_bitCount_0f7a4 ⟨Nat.le_of_ble_eq_true rfl, Nat.le_of_ble_eq_true rfl⟩) rfl hl.1 rfl (Nat.le_of_ble_eq_true rfl) dX5_createLedger_88 ⟨Nat.le_of_ble_eq_true rfl, Nat.le_of_ble_eq_true rfl⟩) (fun H locs hw => ?_)
                refine lv_iload_n hx hb dX5_createLedger_91 rfl (lv_at hl 1 rfl) ?_
                refine lv_icmp_ge (tgt := 105) hx hb dX5_createLedger_92 (by decide) (fun hq12 => ?_) (fun hq12 => ?_)
                · have hm := (if_pos hq12).symm.trans hm
                  refine lv_aload_n hx hb dX5_createLedger_105 rfl (lv_at hl 0 rfl) ?_
                  refine g4 hx hb hts hown hK hw h0 1 (by decide) (.ref (A 1)) rfl k_fl_RX5_19 (fun _ h => h) dX5_createLedger_106 ?_
                  have hp13 := ls_p h0
                  refine lv_aload_n hx hb dX5_createLedger_109 rfl (lv_at hl 0 rfl) ?_
                  refine g4 hx hb hts hown hK hw h0 0 (by decide) (.ref (A 64)) rfl k_fl_RX5_12 (fun _ h => h) dX5_createLedger_110 ?_
                  have hp14 := ls_n h0
                  obtain ⟨z15, e16, hm⟩ := bd_some hm
                  refine kvG hw Fr_hi (rV hx hb hml hts hown hK hw (c_X4_push l hp13 hp14 e16) hp13 (by decide) rfl (mkV 1 hts k_ml_RX5_34 k_im_yX4_push k_se_yX4_push k_in_RX4 k_co_yX4_push hd_X4_push ⟨Nat.le_of_ble_eq_true rfl, Nat.le_of_ble_eq_true rfl⟩) rfl hl.1 rfl (Nat.le_of_ble_eq_true rfl) dX5_createLedger_113 ⟨Nat.le_of_ble_eq_true rfl, Nat.le_of_ble_eq_true rfl⟩) (fun A17 hAA18 H locs hw => ?_)
                  have hl : lv_has ls 4 [(0, .ref (A17 a0)), (1, .int x1), (2, .int x2), (3, .int x3)] := by
                    simp only [(hAA18 _ h0.2).1]
                    exact hl
                  have h0 := TT.mono h0 (fun c hc => (hAA18 c hc).2)
                  refine lv_aload_n hx hb dX5_createLedger_116 rfl (lv_at hl 0 rfl) ?_
                  refine g4 hx hb hts hown hK hw h0 0 (by decide) (.ref (A17 64)) rfl k_fl_RX5_12 (fun _ h => h) dX5_createLedger_117 ?_
                  have hp19 := ls_n h0
                  refine lv_iload_n hx hb dX5_createLedger_120 rfl (lv_at hl 1 rfl) ?_
                  refine lv_iload_n hx hb dX5_createLedger_121 rfl (lv_at hl 2 rfl) ?_
                  refine lv_iload_n hx hb dX5_createLedger_122 rfl (lv_at hl 3 rfl) ?_
                  obtain ⟨z20, e21, hm⟩ := bd_some hm
                  refine ki hw Fr_hi (rV hx hb hml hts hown hK hw (c_X3_beginLedger l hp19 e21) hp19 (by decide) rfl (mkV 3 hts k_ml_RX5_114 k_im_yX3_beginLedger k_se_yX3_beginLedger k_in_RX3 k_co_yX3_beginLedger hd_X3_beginLedger ⟨Nat.le_of_ble_eq_true rfl, Nat.le_of_ble_eq_true rfl⟩) rfl hl.1 rfl (Nat.le_of_ble_eq_true rfl) dX5_createLedger_123 ⟨Nat.le_of_ble_eq_true rfl, Nat.le_of_ble_eq_true rfl⟩) (fun H locs hw => ?_)
                  cases hm
                  exact eGI hx hb hr hlocks hw ⟨rfl, hAA18⟩ (fun t h => h) (Nat.le_of_ble_eq_true rfl) (Nat.le_of_ble_eq_true rfl) dX5_createLedger_126
                · have hm := (if_neg hq12).symm.trans hm
                  cases hm
              · have hm := (if_neg hq8).symm.trans hm
                cases hm
            · have hm := (if_neg hq6).symm.trans hm
              cases hm
        · have hm := (if_neg hq4).symm.trans hm
          cases hm
    · have hm := (if_neg hq2).symm.trans hm
      cases hm
set_option maxHeartbeats 4000000 in
set_option maxRecDepth 100000 in
theorem c_X5_append (l : Launch) {D : va_G} {cy : Nat → ClassId} {A : Nat → Nat} {G : Nat → Bool} {M : Mem} {sz : Nat} {a0 : Nat} {x1 : Int32} {x2 : Int32} (h0 : TT G 4 a0)  {z : (Int32 × (Nat → Bool) × Mem)} (hm : m_X5_append a0 x1 x2 G M = some z) : Met l yX5_append (wm yX5_append cX5_append 4 (some .int)) ({ frames := 5, cells := 50, slots := 3520, locals := 172 } : Room) (va_Pc [.ref (A a0), .int x1, .int x2] (Pr D cy A G M sz)) (va_Qi (fun r' (A1 : Nat → Nat) => r' = z.1 ∧ ∀ c, inL G c = true → A1 c = A c ∧ inL z.2.1 c = true) (fun A1 t => Px D cy A1 z.2.1 (Fr A G sz) z.2.2 t) (Fr A G sz))  50 3520 (Fr A G sz) := by
  refine ofG (Qc := fun sz => va_Qi (fun r' (A1 : Nat → Nat) => r' = z.1 ∧ ∀ c, inL G c = true → A1 c = A c ∧ inL z.2.1 c = true) (fun A1 t => Px D cy A1 z.2.1 (Fr A G sz) z.2.2 t) (Fr A G sz)) (by decide +kernel) (Nat.le_of_ble_eq_true rfl) ?_
  intro p e s m below meth c hx hb hr hts hown hlocks hml hmn hK hw ls hl
  have hl : lv_has ls 4 [(0, .ref (A a0)), (1, .int x1), (2, .int x2)] := hl
  unfold m_X5_append at hm
  revert hw
  suffices K : ∀ (H : Heap) (locs : List Loc), WD D cy (Fr A G s.heap.size) A s.heap G M H locs → W p l e (headSpec (wm yX5_append cX5_append 4 (some .int)) ({ frames := 5, cells := 50, slots := 3520, locals := 172 } : Room)).room s m ([.ref (A a0), .int x1, .int x2] : List Value).toArray below meth c H locs 0 0 (MQ below (va_Qi (fun r' (A1 : Nat → Nat) => r' = z.1 ∧ ∀ c, inL G c = true → A1 c = A c ∧ inL z.2.1 c = true) (fun A1 t => Px D cy A1 z.2.1 (Fr A G s.heap.size) z.2.2 t) (Fr A G s.heap.size)) ([.ref (A a0), .int x1, .int x2] : List Value).toArray s 50 3520 (Fr A G s.heap.size)) (F0 m 0 ls []) from fun hw => K _ _ hw
  intro H locs hw
  refine lv_aload_n hx hb dX5_append_0 rfl (lv_at hl 0 rfl) ?_
  refine lv_iload_n hx hb dX5_append_1 rfl (lv_at hl 1 rfl) ?_
  obtain ⟨z1, e2, hm⟩ := bd_some hm
  refine kqs hw Fr_hi (rV hx hb hml hts hown hK hw (c_X5_existingLedger l h0 e2) h0 (by decide) rfl (mkV 1 hts k_ml_RX5_80 k_im_yX5_existingLedger k_se_yX5_existingLedger k_in_RX5 k_co_yX5_existingLedger hd_X5_existingLedger ⟨Nat.le_of_ble_eq_true rfl, Nat.le_of_ble_eq_true rfl⟩) rfl hl.1 rfl (Nat.le_of_ble_eq_true rfl) dX5_append_2 ⟨Nat.le_of_ble_eq_true rfl, Nat.le_of_ble_eq_true rfl⟩) (fun H locs hw => ?_)
  have hp3 := t_X5_existingLedger h0 e2
  refine lv_astore_n (lv' := [(3, .ref (A z1)), (0, .ref (A a0)), (1, .int x1), (2, .int x2)]) hx hb dX5_append_5 rfl hl (by decide) rfl (fun ls hl => ?_)
  refine lv_iload_n hx hb dX5_append_6 rfl (lv_at hl 3 rfl) ?_
  refine lv_if_lt (tgt := 17) hx hb dX5_append_7 (by decide) (fun hq4 => ?_) (fun hq4 => ?_)
  · have hm := (if_pos hq4).symm.trans hm
    cases hm
  · have hm := (if_neg hq4).symm.trans hm
    refine lv_iload_n hx hb dX5_append_10 rfl (lv_at hl 3 rfl) ?_
    refine lv_sipush (v := 999) hx hb dX5_append_11 (by decide) ?_
    refine lv_icmp_le (tgt := 27) hx hb dX5_append_14 (by decide) (fun hq5 => ?_) (fun hq5 => ?_)
    · have hm := (if_pos hq5).symm.trans hm
      refine lv_aload_n hx hb dX5_append_27 rfl (lv_at hl 0 rfl) ?_
      refine g0 hx hb hts hown hK hw hp3 4 (by decide) (.int (gF M z1 4)) rfl k_fl_RX5_120 (fun _ h => h) dX5_append_28 ?_
      refine lv_if_eq (tgt := 44) hx hb dX5_append_31 (by decide) (fun hq6 => ?_) (fun hq6 => ?_)
      · have hm := (if_pos hq6).symm.trans hm
        refine lv_aload_n hx hb dX5_append_44 rfl (lv_at hl 0 rfl) ?_
        refine g0 hx hb hts hown hK hw hp3 5 (by decide) (.int (gF M z1 5)) rfl k_fl_RX5_127 (fun _ h => h) dX5_append_45 ?_
        refine lv_bipush (v := 40) hx hb dX5_append_48 (by decide) ?_
        refine lv_icmp_lt (tgt := 63) hx hb dX5_append_50 (by decide) (fun hq7 => ?_) (fun hq7 => ?_)
        · have hm := (if_pos hq7).symm.trans hm
          refine lv_aload_n hx hb dX5_append_63 rfl (lv_at hl 1 rfl) ?_
          refine g4 hx hb hts hown hK hw h0 1 (by decide) (.ref (A 1)) rfl k_fl_RX5_19 (fun _ h => h) dX5_append_64 ?_
          have hp8 := ls_p h0
          refine lv_aload_n hx hb dX5_append_67 rfl (lv_at hl 1 rfl) ?_
          refine g4 hx hb hts hown hK hw h0 0 (by decide) (.ref (A 64)) rfl k_fl_RX5_12 (fun _ h => h) dX5_append_68 ?_
          have hp9 := ls_n h0
          obtain ⟨z10, e11, hm⟩ := bd_some hm
          refine kvG hw Fr_hi (rV hx hb hml hts hown hK hw (c_X4_push l hp8 hp9 e11) hp8 (by decide) rfl (mkV 1 hts k_ml_RX5_34 k_im_yX4_push k_se_yX4_push k_in_RX4 k_co_yX4_push hd_X4_push ⟨Nat.le_of_ble_eq_true rfl, Nat.le_of_ble_eq_true rfl⟩) rfl hl.1 rfl (Nat.le_of_ble_eq_true rfl) dX5_append_71 ⟨Nat.le_of_ble_eq_true rfl, Nat.le_of_ble_eq_true rfl⟩) (fun A12 hAA13 H locs hw => ?_)
          have hl : lv_has ls 4 [(3, .ref (A12 z1)), (0, .ref (A12 a0)), (1, .int x1), (2, .int x2)] := by
            simp only [(hAA13 _ hp3.2).1, (hAA13 _ h0.2).1]
            exact hl
          have hp3 := TT.mono hp3 (fun c hc => (hAA13 c hc).2)
          have h0 := TT.mono h0 (fun c hc => (hAA13 c hc).2)
          refine lv_aload_n hx hb dX5_append_74 rfl (lv_at hl 1 rfl) ?_
          refine g4 hx hb hts hown hK hw h0 0 (by decide) (.ref (A12 64)) rfl k_fl_RX5_12 (fun _ h => h) dX5_append_75 ?_
          have hp14 := ls_n h0
          refine lv_aload_n hx hb dX5_append_78 rfl (lv_at hl 0 rfl) ?_
          refine lv_iload_n hx hb dX5_append_79 rfl (lv_at hl 3 rfl) ?_
          obtain ⟨z15, e16, hm⟩ := bd_some hm
          refine ki hw Fr_hi (rV hx hb hml hts hown hK hw (c_X3_write l hp14 hp3 e16) hp14 (by decide) rfl (mkV 2 hts k_ml_RX5_132 k_im_yX3_write k_se_yX3_write k_in_RX3 k_co_yX3_write hd_X3_write ⟨Nat.le_of_ble_eq_true rfl, Nat.le_of_ble_eq_true rfl⟩) rfl hl.1 rfl (Nat.le_of_ble_eq_true rfl) dX5_append_80 ⟨Nat.le_of_ble_eq_true rfl, Nat.le_of_ble_eq_true rfl⟩) (fun H locs hw => ?_)
          cases hm
          exact eGI hx hb hr hlocks hw ⟨rfl, hAA13⟩ (fun t h => h) (Nat.le_of_ble_eq_true rfl) (Nat.le_of_ble_eq_true rfl) dX5_append_83
        · have hm := (if_neg hq7).symm.trans hm
          cases hm
      · have hm := (if_neg hq6).symm.trans hm
        cases hm
    · have hm := (if_neg hq5).symm.trans hm
      cases hm
set_option maxHeartbeats 4000000 in
set_option maxRecDepth 100000 in
theorem c_X5_replace (l : Launch) {D : va_G} {cy : Nat → ClassId} {A : Nat → Nat} {G : Nat → Bool} {M : Mem} {sz : Nat} {a0 : Nat} {x1 : Int32} {x2 : Int32} (h0 : TT G 4 a0)  {z : (Int32 × (Nat → Bool) × Mem)} (hm : m_X5_replace a0 x1 x2 G M = some z) : Met l yX5_replace (wm yX5_replace cX5_replace 5 (some .int)) ({ frames := 5, cells := 50, slots := 3520, locals := 172 } : Room) (va_Pc [.ref (A a0), .int x1, .int x2] (Pr D cy A G M sz)) (va_Qi (fun r' (A1 : Nat → Nat) => r' = z.1 ∧ ∀ c, inL G c = true → A1 c = A c ∧ inL z.2.1 c = true) (fun A1 t => Px D cy A1 z.2.1 (Fr A G sz) z.2.2 t) (Fr A G sz))  50 3520 (Fr A G sz) := by
  refine ofG (Qc := fun sz => va_Qi (fun r' (A1 : Nat → Nat) => r' = z.1 ∧ ∀ c, inL G c = true → A1 c = A c ∧ inL z.2.1 c = true) (fun A1 t => Px D cy A1 z.2.1 (Fr A G sz) z.2.2 t) (Fr A G sz)) (by decide +kernel) (Nat.le_of_ble_eq_true rfl) ?_
  intro p e s m below meth c hx hb hr hts hown hlocks hml hmn hK hw ls hl
  have hl : lv_has ls 5 [(0, .ref (A a0)), (1, .int x1), (2, .int x2)] := hl
  unfold m_X5_replace at hm
  revert hw
  suffices K : ∀ (H : Heap) (locs : List Loc), WD D cy (Fr A G s.heap.size) A s.heap G M H locs → W p l e (headSpec (wm yX5_replace cX5_replace 5 (some .int)) ({ frames := 5, cells := 50, slots := 3520, locals := 172 } : Room)).room s m ([.ref (A a0), .int x1, .int x2] : List Value).toArray below meth c H locs 0 0 (MQ below (va_Qi (fun r' (A1 : Nat → Nat) => r' = z.1 ∧ ∀ c, inL G c = true → A1 c = A c ∧ inL z.2.1 c = true) (fun A1 t => Px D cy A1 z.2.1 (Fr A G s.heap.size) z.2.2 t) (Fr A G s.heap.size)) ([.ref (A a0), .int x1, .int x2] : List Value).toArray s 50 3520 (Fr A G s.heap.size)) (F0 m 0 ls []) from fun hw => K _ _ hw
  intro H locs hw
  refine lv_aload_n hx hb dX5_replace_0 rfl (lv_at hl 0 rfl) ?_
  refine lv_iload_n hx hb dX5_replace_1 rfl (lv_at hl 1 rfl) ?_
  obtain ⟨z1, e2, hm⟩ := bd_some hm
  refine kqs hw Fr_hi (rV hx hb hml hts hown hK hw (c_X5_existingLedger l h0 e2) h0 (by decide) rfl (mkV 1 hts k_ml_RX5_80 k_im_yX5_existingLedger k_se_yX5_existingLedger k_in_RX5 k_co_yX5_existingLedger hd_X5_existingLedger ⟨Nat.le_of_ble_eq_true rfl, Nat.le_of_ble_eq_true rfl⟩) rfl hl.1 rfl (Nat.le_of_ble_eq_true rfl) dX5_replace_2 ⟨Nat.le_of_ble_eq_true rfl, Nat.le_of_ble_eq_true rfl⟩) (fun H locs hw => ?_)
  have hp3 := t_X5_existingLedger h0 e2
  refine lv_astore_n (lv' := [(3, .ref (A z1)), (0, .ref (A a0)), (1, .int x1), (2, .int x2)]) hx hb dX5_replace_5 rfl hl (by decide) rfl (fun ls hl => ?_)
  refine lv_iload_n hx hb dX5_replace_6 rfl (lv_at hl 3 rfl) ?_
  refine lv_if_lt (tgt := 18) hx hb dX5_replace_7 (by decide) (fun hq4 => ?_) (fun hq4 => ?_)
  · have hm := (if_pos hq4).symm.trans hm
    cases hm
  · have hm := (if_neg hq4).symm.trans hm
    refine lv_iload_n hx hb dX5_replace_10 rfl (lv_at hl 3 rfl) ?_
    refine lv_aload_n hx hb dX5_replace_11 rfl (lv_at hl 0 rfl) ?_
    refine g0 hx hb hts hown hK hw hp3 1 (by decide) (.int (gF M z1 1)) rfl k_fl_RX5_136 (fun _ h => h) dX5_replace_12 ?_
    refine lv_icmp_lt (tgt := 28) hx hb dX5_replace_15 (by decide) (fun hq5 => ?_) (fun hq5 => ?_)
    · have hm := (if_pos hq5).symm.trans hm
      refine lv_aload_n hx hb dX5_replace_28 rfl (lv_at hl 0 rfl) ?_
      refine g0 hx hb hts hown hK hw hp3 4 (by decide) (.int (gF M z1 4)) rfl k_fl_RX5_120 (fun _ h => h) dX5_replace_29 ?_
      refine lv_if_eq (tgt := 45) hx hb dX5_replace_32 (by decide) (fun hq6 => ?_) (fun hq6 => ?_)
      · have hm := (if_pos hq6).symm.trans hm
        refine lv_aload_n hx hb dX5_replace_45 rfl (lv_at hl 1 rfl) ?_
        refine g4 hx hb hts hown hK hw h0 0 (by decide) (.ref (A 64)) rfl k_fl_RX5_12 (fun _ h => h) dX5_replace_46 ?_
        have hp7 := ls_n h0
        refine lv_aload_n hx hb dX5_replace_49 rfl (lv_at hl 0 rfl) ?_
        refine lv_aload_n hx hb dX5_replace_50 rfl (lv_at hl 0 rfl) ?_
        refine ki hw Fr_hi (rV hx hb hml hts hown hK hw (c_X0_lastFragment l hp3) hp3 (by decide) rfl (mkV 0 hts k_ml_RX5_141 k_im_yX0_lastFragment k_se_yX0_lastFragment k_in_RX0 k_co_yX0_lastFragment hd_X0_lastFragment ⟨Nat.le_of_ble_eq_true rfl, Nat.le_of_ble_eq_true rfl⟩) rfl hl.1 rfl (Nat.le_of_ble_eq_true rfl) dX5_replace_51 ⟨Nat.le_of_ble_eq_true rfl, Nat.le_of_ble_eq_true rfl⟩) (fun H locs hw => ?_)
        obtain ⟨z8, e9, hm⟩ := bd_some hm
        refine ki hw Fr_hi (rV hx hb hml hts hown hK hw (c_X0_ensembleMask l hp3 e9) hp3 (by decide) rfl (mkV 1 hts k_ml_RX5_144 k_im_yX0_ensembleMask k_se_yX0_ensembleMask k_in_RX0 k_co_yX0_ensembleMask hd_X0_ensembleMask ⟨Nat.le_of_ble_eq_true rfl, Nat.le_of_ble_eq_true rfl⟩) rfl hl.1 rfl (Nat.le_of_ble_eq_true rfl) dX5_replace_54 ⟨Nat.le_of_ble_eq_true rfl, Nat.le_of_ble_eq_true rfl⟩) (fun H locs hw => ?_)
        obtain ⟨z10, e11, hm⟩ := bd_some hm
        refine ki hw Fr_hi (rV hx hb hml hts hown hK hw (c_X3_choose l hp7 e11) hp7 (by decide) rfl (mkV 1 hts k_ml_RX5_147 k_im_yX3_choose k_se_yX3_choose k_in_RX3 k_co_yX3_choose hd_X3_choose ⟨Nat.le_of_ble_eq_true rfl, Nat.le_of_ble_eq_true rfl⟩) rfl hl.1 rfl (Nat.le_of_ble_eq_true rfl) dX5_replace_57 ⟨Nat.le_of_ble_eq_true rfl, Nat.le_of_ble_eq_true rfl⟩) (fun H locs hw => ?_)
        refine lv_istore (lv' := [(4, .int z10), (3, .ref (A z1)), (0, .ref (A a0)), (1, .int x1), (2, .int x2)]) hx hb dX5_replace_60 hl (by decide) rfl (fun ls hl => ?_)
        refine lv_iload hx hb dX5_replace_62 (lv_at hl 0 rfl) ?_
        refine lv_iconst (v := (-1)) hx hb dX5_replace_64 (by decide) ?_
        refine lv_icmp_ne (tgt := 78) hx hb dX5_replace_65 (by decide) (fun hq12 => ?_) (fun hq12 => ?_)
        · have hm := (if_neg hq12).symm.trans hm
          refine lv_aload_n hx hb dX5_replace_78 rfl (lv_at hl 2 rfl) ?_
          refine g4 hx hb hts hown hK hw h0 1 (by decide) (.ref (A 1)) rfl k_fl_RX5_19 (fun _ h => h) dX5_replace_79 ?_
          have hp13 := ls_p h0
          refine lv_aload_n hx hb dX5_replace_82 rfl (lv_at hl 2 rfl) ?_
          refine g4 hx hb hts hown hK hw h0 0 (by decide) (.ref (A 64)) rfl k_fl_RX5_12 (fun _ h => h) dX5_replace_83 ?_
          have hp14 := ls_n h0
          obtain ⟨z15, e16, hm⟩ := bd_some hm
          refine kvG hw Fr_hi (rV hx hb hml hts hown hK hw (c_X4_push l hp13 hp14 e16) hp13 (by decide) rfl (mkV 1 hts k_ml_RX5_34 k_im_yX4_push k_se_yX4_push k_in_RX4 k_co_yX4_push hd_X4_push ⟨Nat.le_of_ble_eq_true rfl, Nat.le_of_ble_eq_true rfl⟩) rfl hl.1 rfl (Nat.le_of_ble_eq_true rfl) dX5_replace_86 ⟨Nat.le_of_ble_eq_true rfl, Nat.le_of_ble_eq_true rfl⟩) (fun A17 hAA18 H locs hw => ?_)
          have hl : lv_has ls 5 [(4, .int z10), (3, .ref (A17 z1)), (0, .ref (A17 a0)), (1, .int x1), (2, .int x2)] := by
            simp only [(hAA18 _ hp3.2).1, (hAA18 _ h0.2).1]
            exact hl
          have hp3 := TT.mono hp3 (fun c hc => (hAA18 c hc).2)
          have h0 := TT.mono h0 (fun c hc => (hAA18 c hc).2)
          refine lv_aload_n hx hb dX5_replace_89 rfl (lv_at hl 2 rfl) ?_
          refine g4 hx hb hts hown hK hw h0 0 (by decide) (.ref (A17 64)) rfl k_fl_RX5_12 (fun _ h => h) dX5_replace_90 ?_
          have hp19 := ls_n h0
          refine lv_aload_n hx hb dX5_replace_93 rfl (lv_at hl 1 rfl) ?_
          refine lv_iload_n hx hb dX5_replace_94 rfl (lv_at hl 4 rfl) ?_
          refine lv_iload hx hb dX5_replace_95 (lv_at hl 0 rfl) ?_
          obtain ⟨z20, e21, hm⟩ := bd_some hm
          refine kv hw Fr_hi (rV hx hb hml hts hown hK hw (c_X3_changeEnsemble l hp19 hp3 e21) hp19 (by decide) rfl (mkV 3 hts k_ml_RX5_152 k_im_yX3_changeEnsemble k_se_yX3_changeEnsemble k_in_RX3 k_co_yX3_changeEnsemble hd_X3_changeEnsemble ⟨Nat.le_of_ble_eq_true rfl, Nat.le_of_ble_eq_true rfl⟩) rfl hl.1 rfl (Nat.le_of_ble_eq_true rfl) dX5_replace_97 ⟨Nat.le_of_ble_eq_true rfl, Nat.le_of_ble_eq_true rfl⟩) (fun H locs hw => ?_)
          refine lv_iload hx hb dX5_replace_100 (lv_at hl 0 rfl) ?_
          cases hm
          exact eGI hx hb hr hlocks hw ⟨rfl, hAA18⟩ (fun t h => h) (Nat.le_of_ble_eq_true rfl) (Nat.le_of_ble_eq_true rfl) dX5_replace_102
        · have hm := (if_pos hq12).symm.trans hm
          cases hm
      · have hm := (if_neg hq6).symm.trans hm
        cases hm
    · have hm := (if_neg hq5).symm.trans hm
      cases hm
set_option maxHeartbeats 4000000 in
set_option maxRecDepth 100000 in
theorem c_X5_recover (l : Launch) {D : va_G} {cy : Nat → ClassId} {A : Nat → Nat} {G : Nat → Bool} {M : Mem} {sz : Nat} {a0 : Nat} {x1 : Int32} (h0 : TT G 4 a0)  {z : (Int32 × (Nat → Bool) × Mem)} (hm : m_X5_recover a0 x1 G M = some z) : Met l yX5_recover (wm yX5_recover cX5_recover 3 (some .int)) ({ frames := 6, cells := 50, slots := 3520, locals := 172 } : Room) (va_Pc [.ref (A a0), .int x1] (Pr D cy A G M sz)) (va_Qi (fun r' (A1 : Nat → Nat) => r' = z.1 ∧ ∀ c, inL G c = true → A1 c = A c ∧ inL z.2.1 c = true) (fun A1 t => Px D cy A1 z.2.1 (Fr A G sz) z.2.2 t) (Fr A G sz))  50 3520 (Fr A G sz) := by
  refine ofG (Qc := fun sz => va_Qi (fun r' (A1 : Nat → Nat) => r' = z.1 ∧ ∀ c, inL G c = true → A1 c = A c ∧ inL z.2.1 c = true) (fun A1 t => Px D cy A1 z.2.1 (Fr A G sz) z.2.2 t) (Fr A G sz)) (by decide +kernel) (Nat.le_of_ble_eq_true rfl) ?_
  intro p e s m below meth c hx hb hr hts hown hlocks hml hmn hK hw ls hl
  have hl : lv_has ls 3 [(0, .ref (A a0)), (1, .int x1)] := hl
  unfold m_X5_recover at hm
  revert hw
  suffices K : ∀ (H : Heap) (locs : List Loc), WD D cy (Fr A G s.heap.size) A s.heap G M H locs → W p l e (headSpec (wm yX5_recover cX5_recover 3 (some .int)) ({ frames := 6, cells := 50, slots := 3520, locals := 172 } : Room)).room s m ([.ref (A a0), .int x1] : List Value).toArray below meth c H locs 0 0 (MQ below (va_Qi (fun r' (A1 : Nat → Nat) => r' = z.1 ∧ ∀ c, inL G c = true → A1 c = A c ∧ inL z.2.1 c = true) (fun A1 t => Px D cy A1 z.2.1 (Fr A G s.heap.size) z.2.2 t) (Fr A G s.heap.size)) ([.ref (A a0), .int x1] : List Value).toArray s 50 3520 (Fr A G s.heap.size)) (F0 m 0 ls []) from fun hw => K _ _ hw
  intro H locs hw
  refine lv_aload_n hx hb dX5_recover_0 rfl (lv_at hl 0 rfl) ?_
  refine lv_iload_n hx hb dX5_recover_1 rfl (lv_at hl 1 rfl) ?_
  obtain ⟨z1, e2, hm⟩ := bd_some hm
  refine kqs hw Fr_hi (rV hx hb hml hts hown hK hw (c_X5_existingLedger l h0 e2) h0 (by decide) rfl (mkV 1 hts k_ml_RX5_80 k_im_yX5_existingLedger k_se_yX5_existingLedger k_in_RX5 k_co_yX5_existingLedger hd_X5_existingLedger ⟨Nat.le_of_ble_eq_true rfl, Nat.le_of_ble_eq_true rfl⟩) rfl hl.1 rfl (Nat.le_of_ble_eq_true rfl) dX5_recover_2 ⟨Nat.le_of_ble_eq_true rfl, Nat.le_of_ble_eq_true rfl⟩) (fun H locs hw => ?_)
  have hp3 := t_X5_existingLedger h0 e2
  refine lv_astore_n (lv' := [(2, .ref (A z1)), (0, .ref (A a0)), (1, .int x1)]) hx hb dX5_recover_5 rfl hl (by decide) rfl (fun ls hl => ?_)
  refine lv_aload_n hx hb dX5_recover_6 rfl (lv_at hl 0 rfl) ?_
  refine g0 hx hb hts hown hK hw hp3 4 (by decide) (.int (gF M z1 4)) rfl k_fl_RX5_120 (fun _ h => h) dX5_recover_7 ?_
  refine lv_iconst (v := 2) hx hb dX5_recover_10 (by decide) ?_
  refine lv_icmp_ne (tgt := 24) hx hb dX5_recover_11 (by decide) (fun hq4 => ?_) (fun hq4 => ?_)
  · have hm := (if_neg hq4).symm.trans hm
    refine lv_aload_n hx hb dX5_recover_24 rfl (lv_at hl 1 rfl) ?_
    refine g4 hx hb hts hown hK hw h0 1 (by decide) (.ref (A 1)) rfl k_fl_RX5_19 (fun _ h => h) dX5_recover_25 ?_
    have hp5 := ls_p h0
    refine lv_aload_n hx hb dX5_recover_28 rfl (lv_at hl 1 rfl) ?_
    refine g4 hx hb hts hown hK hw h0 0 (by decide) (.ref (A 64)) rfl k_fl_RX5_12 (fun _ h => h) dX5_recover_29 ?_
    have hp6 := ls_n h0
    obtain ⟨z7, e8, hm⟩ := bd_some hm
    refine kvG hw Fr_hi (rV hx hb hml hts hown hK hw (c_X4_push l hp5 hp6 e8) hp5 (by decide) rfl (mkV 1 hts k_ml_RX5_34 k_im_yX4_push k_se_yX4_push k_in_RX4 k_co_yX4_push hd_X4_push ⟨Nat.le_of_ble_eq_true rfl, Nat.le_of_ble_eq_true rfl⟩) rfl hl.1 rfl (Nat.le_of_ble_eq_true rfl) dX5_recover_32 ⟨Nat.le_of_ble_eq_true rfl, Nat.le_of_ble_eq_true rfl⟩) (fun A9 hAA10 H locs hw => ?_)
    have hl : lv_has ls 3 [(2, .ref (A9 z1)), (0, .ref (A9 a0)), (1, .int x1)] := by
      simp only [(hAA10 _ hp3.2).1, (hAA10 _ h0.2).1]
      exact hl
    have hp3 := TT.mono hp3 (fun c hc => (hAA10 c hc).2)
    have h0 := TT.mono h0 (fun c hc => (hAA10 c hc).2)
    refine lv_aload_n hx hb dX5_recover_35 rfl (lv_at hl 1 rfl) ?_
    refine g4 hx hb hts hown hK hw h0 0 (by decide) (.ref (A9 64)) rfl k_fl_RX5_12 (fun _ h => h) dX5_recover_36 ?_
    have hp11 := ls_n h0
    refine lv_aload_n hx hb dX5_recover_39 rfl (lv_at hl 0 rfl) ?_
    obtain ⟨z12, e13, hm⟩ := bd_some hm
    refine ki hw Fr_hi (rV hx hb hml hts hown hK hw (c_X3_recoverLedger l hp11 hp3 e13) hp11 (by decide) rfl (mkV 1 hts k_ml_RX5_158 k_im_yX3_recoverLedger k_se_yX3_recoverLedger k_in_RX3 k_co_yX3_recoverLedger hd_X3_recoverLedger ⟨Nat.le_of_ble_eq_true rfl, Nat.le_of_ble_eq_true rfl⟩) rfl hl.1 rfl (Nat.le_of_ble_eq_true rfl) dX5_recover_40 ⟨Nat.le_of_ble_eq_true rfl, Nat.le_of_ble_eq_true rfl⟩) (fun H locs hw => ?_)
    cases hm
    exact eGI hx hb hr hlocks hw ⟨rfl, hAA10⟩ (fun t h => h) (Nat.le_of_ble_eq_true rfl) (Nat.le_of_ble_eq_true rfl) dX5_recover_43
  · have hm := (if_pos hq4).symm.trans hm
    cases hm
set_option maxHeartbeats 4000000 in
set_option maxRecDepth 100000 in
theorem c_X5_repair (l : Launch) {D : va_G} {cy : Nat → ClassId} {A : Nat → Nat} {G : Nat → Bool} {M : Mem} {sz : Nat} {a0 : Nat} {x1 : Int32} (h0 : TT G 4 a0)  {z : (Int32 × (Nat → Bool) × Mem)} (hm : m_X5_repair a0 x1 G M = some z) : Met l yX5_repair (wm yX5_repair cX5_repair 3 (some .int)) ({ frames := 5, cells := 50, slots := 3520, locals := 172 } : Room) (va_Pc [.ref (A a0), .int x1] (Pr D cy A G M sz)) (va_Qi (fun r' (A1 : Nat → Nat) => r' = z.1 ∧ ∀ c, inL G c = true → A1 c = A c ∧ inL z.2.1 c = true) (fun A1 t => Px D cy A1 z.2.1 (Fr A G sz) z.2.2 t) (Fr A G sz))  50 3520 (Fr A G sz) := by
  refine ofG (Qc := fun sz => va_Qi (fun r' (A1 : Nat → Nat) => r' = z.1 ∧ ∀ c, inL G c = true → A1 c = A c ∧ inL z.2.1 c = true) (fun A1 t => Px D cy A1 z.2.1 (Fr A G sz) z.2.2 t) (Fr A G sz)) (by decide +kernel) (Nat.le_of_ble_eq_true rfl) ?_
  intro p e s m below meth c hx hb hr hts hown hlocks hml hmn hK hw ls hl
  have hl : lv_has ls 3 [(0, .ref (A a0)), (1, .int x1)] := hl
  unfold m_X5_repair at hm
  revert hw
  suffices K : ∀ (H : Heap) (locs : List Loc), WD D cy (Fr A G s.heap.size) A s.heap G M H locs → W p l e (headSpec (wm yX5_repair cX5_repair 3 (some .int)) ({ frames := 5, cells := 50, slots := 3520, locals := 172 } : Room)).room s m ([.ref (A a0), .int x1] : List Value).toArray below meth c H locs 0 0 (MQ below (va_Qi (fun r' (A1 : Nat → Nat) => r' = z.1 ∧ ∀ c, inL G c = true → A1 c = A c ∧ inL z.2.1 c = true) (fun A1 t => Px D cy A1 z.2.1 (Fr A G s.heap.size) z.2.2 t) (Fr A G s.heap.size)) ([.ref (A a0), .int x1] : List Value).toArray s 50 3520 (Fr A G s.heap.size)) (F0 m 0 ls []) from fun hw => K _ _ hw
  intro H locs hw
  refine lv_aload_n hx hb dX5_repair_0 rfl (lv_at hl 0 rfl) ?_
  refine lv_iload_n hx hb dX5_repair_1 rfl (lv_at hl 1 rfl) ?_
  obtain ⟨z1, e2, hm⟩ := bd_some hm
  refine kqs hw Fr_hi (rV hx hb hml hts hown hK hw (c_X5_existingLedger l h0 e2) h0 (by decide) rfl (mkV 1 hts k_ml_RX5_80 k_im_yX5_existingLedger k_se_yX5_existingLedger k_in_RX5 k_co_yX5_existingLedger hd_X5_existingLedger ⟨Nat.le_of_ble_eq_true rfl, Nat.le_of_ble_eq_true rfl⟩) rfl hl.1 rfl (Nat.le_of_ble_eq_true rfl) dX5_repair_2 ⟨Nat.le_of_ble_eq_true rfl, Nat.le_of_ble_eq_true rfl⟩) (fun H locs hw => ?_)
  have hp3 := t_X5_existingLedger h0 e2
  refine lv_astore_n (lv' := [(2, .ref (A z1)), (0, .ref (A a0)), (1, .int x1)]) hx hb dX5_repair_5 rfl hl (by decide) rfl (fun ls hl => ?_)
  refine lv_aload_n hx hb dX5_repair_6 rfl (lv_at hl 0 rfl) ?_
  refine g0 hx hb hts hown hK hw hp3 4 (by decide) (.int (gF M z1 4)) rfl k_fl_RX5_120 (fun _ h => h) dX5_repair_7 ?_
  refine lv_iconst (v := 2) hx hb dX5_repair_10 (by decide) ?_
  refine lv_icmp_eq (tgt := 24) hx hb dX5_repair_11 (by decide) (fun hq4 => ?_) (fun hq4 => ?_)
  · have hm := (if_pos hq4).symm.trans hm
    refine lv_aload_n hx hb dX5_repair_24 rfl (lv_at hl 1 rfl) ?_
    refine g4 hx hb hts hown hK hw h0 1 (by decide) (.ref (A 1)) rfl k_fl_RX5_19 (fun _ h => h) dX5_repair_25 ?_
    have hp5 := ls_p h0
    refine lv_aload_n hx hb dX5_repair_28 rfl (lv_at hl 1 rfl) ?_
    refine g4 hx hb hts hown hK hw h0 0 (by decide) (.ref (A 64)) rfl k_fl_RX5_12 (fun _ h => h) dX5_repair_29 ?_
    have hp6 := ls_n h0
    obtain ⟨z7, e8, hm⟩ := bd_some hm
    refine kvG hw Fr_hi (rV hx hb hml hts hown hK hw (c_X4_push l hp5 hp6 e8) hp5 (by decide) rfl (mkV 1 hts k_ml_RX5_34 k_im_yX4_push k_se_yX4_push k_in_RX4 k_co_yX4_push hd_X4_push ⟨Nat.le_of_ble_eq_true rfl, Nat.le_of_ble_eq_true rfl⟩) rfl hl.1 rfl (Nat.le_of_ble_eq_true rfl) dX5_repair_32 ⟨Nat.le_of_ble_eq_true rfl, Nat.le_of_ble_eq_true rfl⟩) (fun A9 hAA10 H locs hw => ?_)
    have hl : lv_has ls 3 [(2, .ref (A9 z1)), (0, .ref (A9 a0)), (1, .int x1)] := by
      simp only [(hAA10 _ hp3.2).1, (hAA10 _ h0.2).1]
      exact hl
    have hp3 := TT.mono hp3 (fun c hc => (hAA10 c hc).2)
    have h0 := TT.mono h0 (fun c hc => (hAA10 c hc).2)
    refine lv_aload_n hx hb dX5_repair_35 rfl (lv_at hl 1 rfl) ?_
    refine g4 hx hb hts hown hK hw h0 0 (by decide) (.ref (A9 64)) rfl k_fl_RX5_12 (fun _ h => h) dX5_repair_36 ?_
    have hp11 := ls_n h0
    refine lv_aload_n hx hb dX5_repair_39 rfl (lv_at hl 0 rfl) ?_
    obtain ⟨z12, e13, hm⟩ := bd_some hm
    refine kv hw Fr_hi (rV hx hb hml hts hown hK hw (c_X3_replaceDownNodes l hp11 hp3 e13) hp11 (by decide) rfl (mkV 1 hts k_ml_RX5_164 k_im_yX3_replaceDownNodes k_se_yX3_replaceDownNodes k_in_RX3 k_co_yX3_replaceDownNodes hd_X3_replaceDownNodes ⟨Nat.le_of_ble_eq_true rfl, Nat.le_of_ble_eq_true rfl⟩) rfl hl.1 rfl (Nat.le_of_ble_eq_true rfl) dX5_repair_40 ⟨Nat.le_of_ble_eq_true rfl, Nat.le_of_ble_eq_true rfl⟩) (fun H locs hw => ?_)
    refine lv_aload_n hx hb dX5_repair_43 rfl (lv_at hl 1 rfl) ?_
    refine g4 hx hb hts hown hK hw h0 0 (by decide) (.ref (A9 64)) rfl k_fl_RX5_12 (fun _ h => h) dX5_repair_44 ?_
    have hp14 := ls_n h0
    refine lv_aload_n hx hb dX5_repair_47 rfl (lv_at hl 0 rfl) ?_
    obtain ⟨z15, e16, hm⟩ := bd_some hm
    refine ki hw Fr_hi (rV hx hb hml hts hown hK hw (c_X3_copyMissingEntries l hp14 hp3 e16) hp14 (by decide) rfl (mkV 1 hts k_ml_RX5_168 k_im_yX3_copyMissingEntries k_se_yX3_copyMissingEntries k_in_RX3 k_co_yX3_copyMissingEntries hd_X3_copyMissingEntries ⟨Nat.le_of_ble_eq_true rfl, Nat.le_of_ble_eq_true rfl⟩) rfl hl.1 rfl (Nat.le_of_ble_eq_true rfl) dX5_repair_48 ⟨Nat.le_of_ble_eq_true rfl, Nat.le_of_ble_eq_true rfl⟩) (fun H locs hw => ?_)
    cases hm
    exact eGI hx hb hr hlocks hw ⟨rfl, hAA10⟩ (fun t h => h) (Nat.le_of_ble_eq_true rfl) (Nat.le_of_ble_eq_true rfl) dX5_repair_51
  · have hm := (if_neg hq4).symm.trans hm
    cases hm
set_option maxHeartbeats 4000000 in
set_option maxRecDepth 100000 in
theorem c_X5_state (l : Launch) {D : va_G} {cy : Nat → ClassId} {A : Nat → Nat} {G : Nat → Bool} {M : Mem} {sz : Nat} {a0 : Nat} {x1 : Int32} (h0 : TT G 4 a0)  {z : Int32} (hm : m_X5_state a0 x1 M = some z) : Met l yX5_state (wm yX5_state cX5_state 2 (some .int)) ({ frames := 2, cells := 0, slots := 0, locals := 62 } : Room) (va_Pc [.ref (A a0), .int x1] (Pr D cy A G M sz)) (va_Qi (fun (r' : Int32) (u : Mem) => r' = z ∧ u = M) (Po D cy A G (Fr A G sz)) (Fr A G sz))  0 0 (Fr A G sz) := by
  refine ofB (Qc := fun sz => va_Qi (fun (r' : Int32) (u : Mem) => r' = z ∧ u = M) (Po D cy A G (Fr A G sz)) (Fr A G sz)) (by decide +kernel) (Nat.le_of_ble_eq_true rfl) ?_
  intro p e s m below meth c hx hb hr hts hown hlocks hml hmn hK hw ls hl
  have hl : lv_has ls 2 [(0, .ref (A a0)), (1, .int x1)] := hl
  unfold m_X5_state at hm
  revert hw
  suffices K : ∀ (H : Heap) (locs : List Loc), WD D cy (Fr A G s.heap.size) A s.heap G M H locs → W p l e (headSpec (wm yX5_state cX5_state 2 (some .int)) ({ frames := 2, cells := 0, slots := 0, locals := 62 } : Room)).room s m ([.ref (A a0), .int x1] : List Value).toArray below meth c H locs 0 0 (MQ below (va_Qi (fun (r' : Int32) (u : Mem) => r' = z ∧ u = M) (Po D cy A G (Fr A G s.heap.size)) (Fr A G s.heap.size)) ([.ref (A a0), .int x1] : List Value).toArray s 0 0 (Fr A G s.heap.size)) (F0 m 0 ls []) from fun hw => K _ _ hw
  intro H locs hw
  refine lv_aload_n hx hb dX5_state_0 rfl (lv_at hl 0 rfl) ?_
  refine lv_iload_n hx hb dX5_state_1 rfl (lv_at hl 1 rfl) ?_
  obtain ⟨z1, e2, hm⟩ := bd_some hm
  refine kqs hw Fr_hi (rV hx hb hml hts hown hK hw (c_X5_existingLedger l h0 e2) h0 (by decide) rfl (mkV 1 hts k_ml_RX5_80 k_im_yX5_existingLedger k_se_yX5_existingLedger k_in_RX5 k_co_yX5_existingLedger hd_X5_existingLedger ⟨Nat.le_of_ble_eq_true rfl, Nat.le_of_ble_eq_true rfl⟩) rfl hl.1 rfl (Nat.le_of_ble_eq_true rfl) dX5_state_2 ⟨Nat.le_of_ble_eq_true rfl, Nat.le_of_ble_eq_true rfl⟩) (fun H locs hw => ?_)
  have hp3 := t_X5_existingLedger h0 e2
  refine g0 hx hb hts hown hK hw hp3 4 (by decide) (.int (gF M z1 4)) rfl k_fl_RX5_120 (fun _ h => h) dX5_state_5 ?_
  cases hm
  exact eI hx hb hr hlocks hK hw dX5_state_8
set_option maxHeartbeats 4000000 in
set_option maxRecDepth 100000 in
theorem c_X5_lastReadable (l : Launch) {D : va_G} {cy : Nat → ClassId} {A : Nat → Nat} {G : Nat → Bool} {M : Mem} {sz : Nat} {a0 : Nat} {x1 : Int32} (h0 : TT G 4 a0)  {z : Int32} (hm : m_X5_lastReadable a0 x1 M = some z) : Met l yX5_lastReadable (wm yX5_lastReadable cX5_lastReadable 2 (some .int)) ({ frames := 4, cells := 0, slots := 0, locals := 82 } : Room) (va_Pc [.ref (A a0), .int x1] (Pr D cy A G M sz)) (va_Qi (fun (r' : Int32) (u : Mem) => r' = z ∧ u = M) (Po D cy A G (Fr A G sz)) (Fr A G sz))  0 0 (Fr A G sz) := by
  refine ofB (Qc := fun sz => va_Qi (fun (r' : Int32) (u : Mem) => r' = z ∧ u = M) (Po D cy A G (Fr A G sz)) (Fr A G sz)) (by decide +kernel) (Nat.le_of_ble_eq_true rfl) ?_
  intro p e s m below meth c hx hb hr hts hown hlocks hml hmn hK hw ls hl
  have hl : lv_has ls 2 [(0, .ref (A a0)), (1, .int x1)] := hl
  unfold m_X5_lastReadable at hm
  revert hw
  suffices K : ∀ (H : Heap) (locs : List Loc), WD D cy (Fr A G s.heap.size) A s.heap G M H locs → W p l e (headSpec (wm yX5_lastReadable cX5_lastReadable 2 (some .int)) ({ frames := 4, cells := 0, slots := 0, locals := 82 } : Room)).room s m ([.ref (A a0), .int x1] : List Value).toArray below meth c H locs 0 0 (MQ below (va_Qi (fun (r' : Int32) (u : Mem) => r' = z ∧ u = M) (Po D cy A G (Fr A G s.heap.size)) (Fr A G s.heap.size)) ([.ref (A a0), .int x1] : List Value).toArray s 0 0 (Fr A G s.heap.size)) (F0 m 0 ls []) from fun hw => K _ _ hw
  intro H locs hw
  refine lv_aload_n hx hb dX5_lastReadable_0 rfl (lv_at hl 0 rfl) ?_
  refine lv_iload_n hx hb dX5_lastReadable_1 rfl (lv_at hl 1 rfl) ?_
  obtain ⟨z1, e2, hm⟩ := bd_some hm
  refine kqs hw Fr_hi (rV hx hb hml hts hown hK hw (c_X5_existingLedger l h0 e2) h0 (by decide) rfl (mkV 1 hts k_ml_RX5_80 k_im_yX5_existingLedger k_se_yX5_existingLedger k_in_RX5 k_co_yX5_existingLedger hd_X5_existingLedger ⟨Nat.le_of_ble_eq_true rfl, Nat.le_of_ble_eq_true rfl⟩) rfl hl.1 rfl (Nat.le_of_ble_eq_true rfl) dX5_lastReadable_2 ⟨Nat.le_of_ble_eq_true rfl, Nat.le_of_ble_eq_true rfl⟩) (fun H locs hw => ?_)
  have hp3 := t_X5_existingLedger h0 e2
  obtain ⟨z4, e5, hm⟩ := bd_some hm
  refine ki hw Fr_hi (rV hx hb hml hts hown hK hw (c_X0_lastToRead l hp3 e5) hp3 (by decide) rfl (mkV 0 hts k_ml_RX5_173 k_im_yX0_lastToRead k_se_yX0_lastToRead k_in_RX0 k_co_yX0_lastToRead hd_X0_lastToRead ⟨Nat.le_of_ble_eq_true rfl, Nat.le_of_ble_eq_true rfl⟩) rfl hl.1 rfl (Nat.le_of_ble_eq_true rfl) dX5_lastReadable_5 ⟨Nat.le_of_ble_eq_true rfl, Nat.le_of_ble_eq_true rfl⟩) (fun H locs hw => ?_)
  cases hm
  exact eI hx hb hr hlocks hK hw dX5_lastReadable_8
set_option maxHeartbeats 4000000 in
set_option maxRecDepth 100000 in
theorem c_X5_appended (l : Launch) {D : va_G} {cy : Nat → ClassId} {A : Nat → Nat} {G : Nat → Bool} {M : Mem} {sz : Nat} {a0 : Nat} {x1 : Int32} (h0 : TT G 4 a0)  {z : Int32} (hm : m_X5_appended a0 x1 M = some z) : Met l yX5_appended (wm yX5_appended cX5_appended 2 (some .int)) ({ frames := 2, cells := 0, slots := 0, locals := 62 } : Room) (va_Pc [.ref (A a0), .int x1] (Pr D cy A G M sz)) (va_Qi (fun (r' : Int32) (u : Mem) => r' = z ∧ u = M) (Po D cy A G (Fr A G sz)) (Fr A G sz))  0 0 (Fr A G sz) := by
  refine ofB (Qc := fun sz => va_Qi (fun (r' : Int32) (u : Mem) => r' = z ∧ u = M) (Po D cy A G (Fr A G sz)) (Fr A G sz)) (by decide +kernel) (Nat.le_of_ble_eq_true rfl) ?_
  intro p e s m below meth c hx hb hr hts hown hlocks hml hmn hK hw ls hl
  have hl : lv_has ls 2 [(0, .ref (A a0)), (1, .int x1)] := hl
  unfold m_X5_appended at hm
  revert hw
  suffices K : ∀ (H : Heap) (locs : List Loc), WD D cy (Fr A G s.heap.size) A s.heap G M H locs → W p l e (headSpec (wm yX5_appended cX5_appended 2 (some .int)) ({ frames := 2, cells := 0, slots := 0, locals := 62 } : Room)).room s m ([.ref (A a0), .int x1] : List Value).toArray below meth c H locs 0 0 (MQ below (va_Qi (fun (r' : Int32) (u : Mem) => r' = z ∧ u = M) (Po D cy A G (Fr A G s.heap.size)) (Fr A G s.heap.size)) ([.ref (A a0), .int x1] : List Value).toArray s 0 0 (Fr A G s.heap.size)) (F0 m 0 ls []) from fun hw => K _ _ hw
  intro H locs hw
  refine lv_aload_n hx hb dX5_appended_0 rfl (lv_at hl 0 rfl) ?_
  refine lv_iload_n hx hb dX5_appended_1 rfl (lv_at hl 1 rfl) ?_
  obtain ⟨z1, e2, hm⟩ := bd_some hm
  refine kqs hw Fr_hi (rV hx hb hml hts hown hK hw (c_X5_existingLedger l h0 e2) h0 (by decide) rfl (mkV 1 hts k_ml_RX5_80 k_im_yX5_existingLedger k_se_yX5_existingLedger k_in_RX5 k_co_yX5_existingLedger hd_X5_existingLedger ⟨Nat.le_of_ble_eq_true rfl, Nat.le_of_ble_eq_true rfl⟩) rfl hl.1 rfl (Nat.le_of_ble_eq_true rfl) dX5_appended_2 ⟨Nat.le_of_ble_eq_true rfl, Nat.le_of_ble_eq_true rfl⟩) (fun H locs hw => ?_)
  have hp3 := t_X5_existingLedger h0 e2
  refine g0 hx hb hts hown hK hw hp3 5 (by decide) (.int (gF M z1 5)) rfl k_fl_RX5_127 (fun _ h => h) dX5_appended_5 ?_
  cases hm
  exact eI hx hb hr hlocks hK hw dX5_appended_8
set_option maxHeartbeats 4000000 in
set_option maxRecDepth 100000 in
theorem c_X5_acknowledgements (l : Launch) {D : va_G} {cy : Nat → ClassId} {A : Nat → Nat} {G : Nat → Bool} {M : Mem} {sz : Nat} {a0 : Nat} {x1 : Int32} {x2 : Int32} (h0 : TT G 4 a0)  {z : Int32} (hm : m_X5_acknowledgements a0 x1 x2 M = some z) : Met l yX5_acknowledgements (wm yX5_acknowledgements cX5_acknowledgements 4 (some .int)) ({ frames := 2, cells := 0, slots := 0, locals := 62 } : Room) (va_Pc [.ref (A a0), .int x1, .int x2] (Pr D cy A G M sz)) (va_Qi (fun (r' : Int32) (u : Mem) => r' = z ∧ u = M) (Po D cy A G (Fr A G sz)) (Fr A G sz))  0 0 (Fr A G sz) := by
  refine ofB (Qc := fun sz => va_Qi (fun (r' : Int32) (u : Mem) => r' = z ∧ u = M) (Po D cy A G (Fr A G sz)) (Fr A G sz)) (by decide +kernel) (Nat.le_of_ble_eq_true rfl) ?_
  intro p e s m below meth c hx hb hr hts hown hlocks hml hmn hK hw ls hl
  have hl : lv_has ls 4 [(0, .ref (A a0)), (1, .int x1), (2, .int x2)] := hl
  unfold m_X5_acknowledgements at hm
  revert hw
  suffices K : ∀ (H : Heap) (locs : List Loc), WD D cy (Fr A G s.heap.size) A s.heap G M H locs → W p l e (headSpec (wm yX5_acknowledgements cX5_acknowledgements 4 (some .int)) ({ frames := 2, cells := 0, slots := 0, locals := 62 } : Room)).room s m ([.ref (A a0), .int x1, .int x2] : List Value).toArray below meth c H locs 0 0 (MQ below (va_Qi (fun (r' : Int32) (u : Mem) => r' = z ∧ u = M) (Po D cy A G (Fr A G s.heap.size)) (Fr A G s.heap.size)) ([.ref (A a0), .int x1, .int x2] : List Value).toArray s 0 0 (Fr A G s.heap.size)) (F0 m 0 ls []) from fun hw => K _ _ hw
  intro H locs hw
  refine lv_aload_n hx hb dX5_acknowledgements_0 rfl (lv_at hl 0 rfl) ?_
  refine lv_iload_n hx hb dX5_acknowledgements_1 rfl (lv_at hl 1 rfl) ?_
  obtain ⟨z1, e2, hm⟩ := bd_some hm
  refine kqs hw Fr_hi (rV hx hb hml hts hown hK hw (c_X5_existingLedger l h0 e2) h0 (by decide) rfl (mkV 1 hts k_ml_RX5_80 k_im_yX5_existingLedger k_se_yX5_existingLedger k_in_RX5 k_co_yX5_existingLedger hd_X5_existingLedger ⟨Nat.le_of_ble_eq_true rfl, Nat.le_of_ble_eq_true rfl⟩) rfl hl.1 rfl (Nat.le_of_ble_eq_true rfl) dX5_acknowledgements_2 ⟨Nat.le_of_ble_eq_true rfl, Nat.le_of_ble_eq_true rfl⟩) (fun H locs hw => ?_)
  have hp3 := t_X5_existingLedger h0 e2
  refine lv_astore_n (lv' := [(3, .ref (A z1)), (0, .ref (A a0)), (1, .int x1), (2, .int x2)]) hx hb dX5_acknowledgements_5 rfl hl (by decide) rfl (fun ls hl => ?_)
  refine lv_aload_n hx hb dX5_acknowledgements_6 rfl (lv_at hl 0 rfl) ?_
  refine lv_iload_n hx hb dX5_acknowledgements_7 rfl (lv_at hl 3 rfl) ?_
  obtain ⟨z4, e5, hm⟩ := bd_some hm
  refine kv hw Fr_hi (rS hx hb hml hts hown hK hw (c_X5_requireAppended l hp3 e5) (mkS 2 hts k_ml_RX5_186 k_st_yX5_requireAppended k_in_RX5 k_co_yX5_requireAppended hd_X5_requireAppended ⟨Nat.le_of_ble_eq_true rfl, Nat.le_of_ble_eq_true rfl⟩) rfl hl.1 rfl (Nat.le_of_ble_eq_true rfl) dX5_acknowledgements_8 ⟨Nat.le_of_ble_eq_true rfl, Nat.le_of_ble_eq_true rfl⟩) (fun H locs hw => ?_)
  refine lv_aload_n hx hb dX5_acknowledgements_11 rfl (lv_at hl 0 rfl) ?_
  refine lv_iload_n hx hb dX5_acknowledgements_12 rfl (lv_at hl 3 rfl) ?_
  obtain ⟨z6, e7, hm⟩ := bd_some hm
  refine ki hw Fr_hi (rV hx hb hml hts hown hK hw (c_X0_countAcknowledgers l hp3 e7) hp3 (by decide) rfl (mkV 1 hts k_ml_RX5_190 k_im_yX0_countAcknowledgers k_se_yX0_countAcknowledgers k_in_RX0 k_co_yX0_countAcknowledgers hd_X0_countAcknowledgers ⟨Nat.le_of_ble_eq_true rfl, Nat.le_of_ble_eq_true rfl⟩) rfl hl.1 rfl (Nat.le_of_ble_eq_true rfl) dX5_acknowledgements_13 ⟨Nat.le_of_ble_eq_true rfl, Nat.le_of_ble_eq_true rfl⟩) (fun H locs hw => ?_)
  cases hm
  exact eI hx hb hr hlocks hK hw dX5_acknowledgements_16
set_option maxHeartbeats 4000000 in
set_option maxRecDepth 100000 in
theorem c_X5_holders (l : Launch) {D : va_G} {cy : Nat → ClassId} {A : Nat → Nat} {G : Nat → Bool} {M : Mem} {sz : Nat} {a0 : Nat} {x1 : Int32} {x2 : Int32} (h0 : TT G 4 a0)  {z : Int32} (hm : m_X5_holders a0 x1 x2 M = some z) : Met l yX5_holders (wm yX5_holders cX5_holders 4 (some .int)) ({ frames := 4, cells := 0, slots := 0, locals := 92 } : Room) (va_Pc [.ref (A a0), .int x1, .int x2] (Pr D cy A G M sz)) (va_Qi (fun (r' : Int32) (u : Mem) => r' = z ∧ u = M) (Po D cy A G (Fr A G sz)) (Fr A G sz))  0 0 (Fr A G sz) := by
  refine ofB (Qc := fun sz => va_Qi (fun (r' : Int32) (u : Mem) => r' = z ∧ u = M) (Po D cy A G (Fr A G sz)) (Fr A G sz)) (by decide +kernel) (Nat.le_of_ble_eq_true rfl) ?_
  intro p e s m below meth c hx hb hr hts hown hlocks hml hmn hK hw ls hl
  have hl : lv_has ls 4 [(0, .ref (A a0)), (1, .int x1), (2, .int x2)] := hl
  unfold m_X5_holders at hm
  revert hw
  suffices K : ∀ (H : Heap) (locs : List Loc), WD D cy (Fr A G s.heap.size) A s.heap G M H locs → W p l e (headSpec (wm yX5_holders cX5_holders 4 (some .int)) ({ frames := 4, cells := 0, slots := 0, locals := 92 } : Room)).room s m ([.ref (A a0), .int x1, .int x2] : List Value).toArray below meth c H locs 0 0 (MQ below (va_Qi (fun (r' : Int32) (u : Mem) => r' = z ∧ u = M) (Po D cy A G (Fr A G s.heap.size)) (Fr A G s.heap.size)) ([.ref (A a0), .int x1, .int x2] : List Value).toArray s 0 0 (Fr A G s.heap.size)) (F0 m 0 ls []) from fun hw => K _ _ hw
  intro H locs hw
  refine lv_aload_n hx hb dX5_holders_0 rfl (lv_at hl 0 rfl) ?_
  refine lv_iload_n hx hb dX5_holders_1 rfl (lv_at hl 1 rfl) ?_
  obtain ⟨z1, e2, hm⟩ := bd_some hm
  refine kqs hw Fr_hi (rV hx hb hml hts hown hK hw (c_X5_existingLedger l h0 e2) h0 (by decide) rfl (mkV 1 hts k_ml_RX5_80 k_im_yX5_existingLedger k_se_yX5_existingLedger k_in_RX5 k_co_yX5_existingLedger hd_X5_existingLedger ⟨Nat.le_of_ble_eq_true rfl, Nat.le_of_ble_eq_true rfl⟩) rfl hl.1 rfl (Nat.le_of_ble_eq_true rfl) dX5_holders_2 ⟨Nat.le_of_ble_eq_true rfl, Nat.le_of_ble_eq_true rfl⟩) (fun H locs hw => ?_)
  have hp3 := t_X5_existingLedger h0 e2
  refine lv_astore_n (lv' := [(3, .ref (A z1)), (0, .ref (A a0)), (1, .int x1), (2, .int x2)]) hx hb dX5_holders_5 rfl hl (by decide) rfl (fun ls hl => ?_)
  refine lv_aload_n hx hb dX5_holders_6 rfl (lv_at hl 0 rfl) ?_
  refine lv_iload_n hx hb dX5_holders_7 rfl (lv_at hl 3 rfl) ?_
  obtain ⟨z4, e5, hm⟩ := bd_some hm
  refine kv hw Fr_hi (rS hx hb hml hts hown hK hw (c_X5_requireAppended l hp3 e5) (mkS 2 hts k_ml_RX5_186 k_st_yX5_requireAppended k_in_RX5 k_co_yX5_requireAppended hd_X5_requireAppended ⟨Nat.le_of_ble_eq_true rfl, Nat.le_of_ble_eq_true rfl⟩) rfl hl.1 rfl (Nat.le_of_ble_eq_true rfl) dX5_holders_8 ⟨Nat.le_of_ble_eq_true rfl, Nat.le_of_ble_eq_true rfl⟩) (fun H locs hw => ?_)
  refine lv_aload_n hx hb dX5_holders_11 rfl (lv_at hl 1 rfl) ?_
  refine g4 hx hb hts hown hK hw h0 0 (by decide) (.ref (A 64)) rfl k_fl_RX5_12 (fun _ h => h) dX5_holders_12 ?_
  have hp6 := ls_n h0
  refine lv_aload_n hx hb dX5_holders_15 rfl (lv_at hl 0 rfl) ?_
  refine lv_iload_n hx hb dX5_holders_16 rfl (lv_at hl 3 rfl) ?_
  obtain ⟨z7, e8, hm⟩ := bd_some hm
  refine ki hw Fr_hi (rV hx hb hml hts hown hK hw (c_X3_holderMask l hp6 hp3 e8) hp6 (by decide) rfl (mkV 2 hts k_ml_RX5_193 k_im_yX3_holderMask k_se_yX3_holderMask k_in_RX3 k_co_yX3_holderMask hd_X3_holderMask ⟨Nat.le_of_ble_eq_true rfl, Nat.le_of_ble_eq_true rfl⟩) rfl hl.1 rfl (Nat.le_of_ble_eq_true rfl) dX5_holders_17 ⟨Nat.le_of_ble_eq_true rfl, Nat.le_of_ble_eq_true rfl⟩) (fun H locs hw => ?_)
  cases hm
  exact eI hx hb hr hlocks hK hw dX5_holders_20
set_option maxHeartbeats 4000000 in
set_option maxRecDepth 100000 in
theorem c_X5_fragmentCount (l : Launch) {D : va_G} {cy : Nat → ClassId} {A : Nat → Nat} {G : Nat → Bool} {M : Mem} {sz : Nat} {a0 : Nat} {x1 : Int32} (h0 : TT G 4 a0)  {z : Int32} (hm : m_X5_fragmentCount a0 x1 M = some z) : Met l yX5_fragmentCount (wm yX5_fragmentCount cX5_fragmentCount 2 (some .int)) ({ frames := 2, cells := 0, slots := 0, locals := 62 } : Room) (va_Pc [.ref (A a0), .int x1] (Pr D cy A G M sz)) (va_Qi (fun (r' : Int32) (u : Mem) => r' = z ∧ u = M) (Po D cy A G (Fr A G sz)) (Fr A G sz))  0 0 (Fr A G sz) := by
  refine ofB (Qc := fun sz => va_Qi (fun (r' : Int32) (u : Mem) => r' = z ∧ u = M) (Po D cy A G (Fr A G sz)) (Fr A G sz)) (by decide +kernel) (Nat.le_of_ble_eq_true rfl) ?_
  intro p e s m below meth c hx hb hr hts hown hlocks hml hmn hK hw ls hl
  have hl : lv_has ls 2 [(0, .ref (A a0)), (1, .int x1)] := hl
  unfold m_X5_fragmentCount at hm
  revert hw
  suffices K : ∀ (H : Heap) (locs : List Loc), WD D cy (Fr A G s.heap.size) A s.heap G M H locs → W p l e (headSpec (wm yX5_fragmentCount cX5_fragmentCount 2 (some .int)) ({ frames := 2, cells := 0, slots := 0, locals := 62 } : Room)).room s m ([.ref (A a0), .int x1] : List Value).toArray below meth c H locs 0 0 (MQ below (va_Qi (fun (r' : Int32) (u : Mem) => r' = z ∧ u = M) (Po D cy A G (Fr A G s.heap.size)) (Fr A G s.heap.size)) ([.ref (A a0), .int x1] : List Value).toArray s 0 0 (Fr A G s.heap.size)) (F0 m 0 ls []) from fun hw => K _ _ hw
  intro H locs hw
  refine lv_aload_n hx hb dX5_fragmentCount_0 rfl (lv_at hl 0 rfl) ?_
  refine lv_iload_n hx hb dX5_fragmentCount_1 rfl (lv_at hl 1 rfl) ?_
  obtain ⟨z1, e2, hm⟩ := bd_some hm
  refine kqs hw Fr_hi (rV hx hb hml hts hown hK hw (c_X5_existingLedger l h0 e2) h0 (by decide) rfl (mkV 1 hts k_ml_RX5_80 k_im_yX5_existingLedger k_se_yX5_existingLedger k_in_RX5 k_co_yX5_existingLedger hd_X5_existingLedger ⟨Nat.le_of_ble_eq_true rfl, Nat.le_of_ble_eq_true rfl⟩) rfl hl.1 rfl (Nat.le_of_ble_eq_true rfl) dX5_fragmentCount_2 ⟨Nat.le_of_ble_eq_true rfl, Nat.le_of_ble_eq_true rfl⟩) (fun H locs hw => ?_)
  have hp3 := t_X5_existingLedger h0 e2
  refine g0 hx hb hts hown hK hw hp3 7 (by decide) (.int (gF M z1 7)) rfl k_fl_RX5_196 (fun _ h => h) dX5_fragmentCount_5 ?_
  cases hm
  exact eI hx hb hr hlocks hK hw dX5_fragmentCount_8
set_option maxHeartbeats 4000000 in
set_option maxRecDepth 100000 in
theorem c_X5_member (l : Launch) {D : va_G} {cy : Nat → ClassId} {A : Nat → Nat} {G : Nat → Bool} {M : Mem} {sz : Nat} {a0 : Nat} {x1 : Int32} {x2 : Int32} {x3 : Int32} (h0 : TT G 4 a0)  {z : Int32} (hm : m_X5_member a0 x1 x2 x3 M = some z) : Met l yX5_member (wm yX5_member cX5_member 5 (some .int)) ({ frames := 2, cells := 0, slots := 0, locals := 62 } : Room) (va_Pc [.ref (A a0), .int x1, .int x2, .int x3] (Pr D cy A G M sz)) (va_Qi (fun (r' : Int32) (u : Mem) => r' = z ∧ u = M) (Po D cy A G (Fr A G sz)) (Fr A G sz))  0 0 (Fr A G sz) := by
  refine ofB (Qc := fun sz => va_Qi (fun (r' : Int32) (u : Mem) => r' = z ∧ u = M) (Po D cy A G (Fr A G sz)) (Fr A G sz)) (by decide +kernel) (Nat.le_of_ble_eq_true rfl) ?_
  intro p e s m below meth c hx hb hr hts hown hlocks hml hmn hK hw ls hl
  have hl : lv_has ls 5 [(0, .ref (A a0)), (1, .int x1), (2, .int x2), (3, .int x3)] := hl
  unfold m_X5_member at hm
  revert hw
  suffices K : ∀ (H : Heap) (locs : List Loc), WD D cy (Fr A G s.heap.size) A s.heap G M H locs → W p l e (headSpec (wm yX5_member cX5_member 5 (some .int)) ({ frames := 2, cells := 0, slots := 0, locals := 62 } : Room)).room s m ([.ref (A a0), .int x1, .int x2, .int x3] : List Value).toArray below meth c H locs 0 0 (MQ below (va_Qi (fun (r' : Int32) (u : Mem) => r' = z ∧ u = M) (Po D cy A G (Fr A G s.heap.size)) (Fr A G s.heap.size)) ([.ref (A a0), .int x1, .int x2, .int x3] : List Value).toArray s 0 0 (Fr A G s.heap.size)) (F0 m 0 ls []) from fun hw => K _ _ hw
  intro H locs hw
  refine lv_aload_n hx hb dX5_member_0 rfl (lv_at hl 0 rfl) ?_
  refine lv_iload_n hx hb dX5_member_1 rfl (lv_at hl 1 rfl) ?_
  obtain ⟨z1, e2, hm⟩ := bd_some hm
  refine kqs hw Fr_hi (rV hx hb hml hts hown hK hw (c_X5_existingLedger l h0 e2) h0 (by decide) rfl (mkV 1 hts k_ml_RX5_80 k_im_yX5_existingLedger k_se_yX5_existingLedger k_in_RX5 k_co_yX5_existingLedger hd_X5_existingLedger ⟨Nat.le_of_ble_eq_true rfl, Nat.le_of_ble_eq_true rfl⟩) rfl hl.1 rfl (Nat.le_of_ble_eq_true rfl) dX5_member_2 ⟨Nat.le_of_ble_eq_true rfl, Nat.le_of_ble_eq_true rfl⟩) (fun H locs hw => ?_)
  have hp3 := t_X5_existingLedger h0 e2
  refine lv_astore (lv' := [(4, .ref (A z1)), (0, .ref (A a0)), (1, .int x1), (2, .int x2), (3, .int x3)]) hx hb dX5_member_5 hl (by decide) rfl (fun ls hl => ?_)
  refine lv_aload hx hb dX5_member_7 (lv_at hl 0 rfl) ?_
  refine lv_iload_n hx hb dX5_member_9 rfl (lv_at hl 3 rfl) ?_
  obtain ⟨z4, e5, hm⟩ := bd_some hm
  refine kv hw Fr_hi (rS hx hb hml hts hown hK hw (c_X5_requireFragment l hp3 e5) (mkS 2 hts k_ml_RX5_199 k_st_yX5_requireFragment k_in_RX5 k_co_yX5_requireFragment hd_X5_requireFragment ⟨Nat.le_of_ble_eq_true rfl, Nat.le_of_ble_eq_true rfl⟩) rfl hl.1 rfl (Nat.le_of_ble_eq_true rfl) dX5_member_10 ⟨Nat.le_of_ble_eq_true rfl, Nat.le_of_ble_eq_true rfl⟩) (fun H locs hw => ?_)
  refine lv_iload_n hx hb dX5_member_13 rfl (lv_at hl 4 rfl) ?_
  refine lv_if_lt (tgt := 26) hx hb dX5_member_14 (by decide) (fun hq6 => ?_) (fun hq6 => ?_)
  · have hm := (if_pos hq6).symm.trans hm
    cases hm
  · have hm := (if_neg hq6).symm.trans hm
    refine lv_iload_n hx hb dX5_member_17 rfl (lv_at hl 4 rfl) ?_
    refine lv_aload hx hb dX5_member_18 (lv_at hl 0 rfl) ?_
    refine g0 hx hb hts hown hK hw hp3 1 (by decide) (.int (gF M z1 1)) rfl k_fl_RX5_136 (fun _ h => h) dX5_member_20 ?_
    refine lv_icmp_lt (tgt := 36) hx hb dX5_member_23 (by decide) (fun hq7 => ?_) (fun hq7 => ?_)
    · have hm := (if_pos hq7).symm.trans hm
      refine lv_aload hx hb dX5_member_36 (lv_at hl 0 rfl) ?_
      refine lv_iload_n hx hb dX5_member_38 rfl (lv_at hl 3 rfl) ?_
      refine lv_iload_n hx hb dX5_member_39 rfl (lv_at hl 4 rfl) ?_
      obtain ⟨z8, e9, hm⟩ := bd_some hm
      refine ki hw Fr_hi (rV hx hb hml hts hown hK hw (c_X0_nodeAt l hp3 e9) hp3 (by decide) rfl (mkV 2 hts k_ml_RX5_205 k_im_yX0_nodeAt k_se_yX0_nodeAt k_in_RX0 k_co_yX0_nodeAt hd_X0_nodeAt ⟨Nat.le_of_ble_eq_true rfl, Nat.le_of_ble_eq_true rfl⟩) rfl hl.1 rfl (Nat.le_of_ble_eq_true rfl) dX5_member_40 ⟨Nat.le_of_ble_eq_true rfl, Nat.le_of_ble_eq_true rfl⟩) (fun H locs hw => ?_)
      cases hm
      exact eI hx hb hr hlocks hK hw dX5_member_43
    · have hm := (if_neg hq7).symm.trans hm
      cases hm
set_option maxHeartbeats 4000000 in
set_option maxRecDepth 100000 in
theorem c_X5_underReplicated (l : Launch) {D : va_G} {cy : Nat → ClassId} {A : Nat → Nat} {G : Nat → Bool} {M : Mem} {sz : Nat} {a0 : Nat} {x1 : Int32} (h0 : TT G 4 a0)  {z : Int32} (hm : m_X5_underReplicated a0 x1 M = some z) : Met l yX5_underReplicated (wm yX5_underReplicated cX5_underReplicated 2 (some .int)) ({ frames := 5, cells := 0, slots := 0, locals := 118 } : Room) (va_Pc [.ref (A a0), .int x1] (Pr D cy A G M sz)) (va_Qi (fun (r' : Int32) (u : Mem) => r' = z ∧ u = M) (Po D cy A G (Fr A G sz)) (Fr A G sz))  0 0 (Fr A G sz) := by
  refine ofB (Qc := fun sz => va_Qi (fun (r' : Int32) (u : Mem) => r' = z ∧ u = M) (Po D cy A G (Fr A G sz)) (Fr A G sz)) (by decide +kernel) (Nat.le_of_ble_eq_true rfl) ?_
  intro p e s m below meth c hx hb hr hts hown hlocks hml hmn hK hw ls hl
  have hl : lv_has ls 2 [(0, .ref (A a0)), (1, .int x1)] := hl
  unfold m_X5_underReplicated at hm
  revert hw
  suffices K : ∀ (H : Heap) (locs : List Loc), WD D cy (Fr A G s.heap.size) A s.heap G M H locs → W p l e (headSpec (wm yX5_underReplicated cX5_underReplicated 2 (some .int)) ({ frames := 5, cells := 0, slots := 0, locals := 118 } : Room)).room s m ([.ref (A a0), .int x1] : List Value).toArray below meth c H locs 0 0 (MQ below (va_Qi (fun (r' : Int32) (u : Mem) => r' = z ∧ u = M) (Po D cy A G (Fr A G s.heap.size)) (Fr A G s.heap.size)) ([.ref (A a0), .int x1] : List Value).toArray s 0 0 (Fr A G s.heap.size)) (F0 m 0 ls []) from fun hw => K _ _ hw
  intro H locs hw
  refine lv_aload_n hx hb dX5_underReplicated_0 rfl (lv_at hl 0 rfl) ?_
  refine g4 hx hb hts hown hK hw h0 0 (by decide) (.ref (A 64)) rfl k_fl_RX5_12 (fun _ h => h) dX5_underReplicated_1 ?_
  have hp1 := ls_n h0
  refine lv_aload_n hx hb dX5_underReplicated_4 rfl (lv_at hl 0 rfl) ?_
  refine lv_iload_n hx hb dX5_underReplicated_5 rfl (lv_at hl 1 rfl) ?_
  obtain ⟨z2, e3, hm⟩ := bd_some hm
  refine kqs hw Fr_hi (rV hx hb hml hts hown hK hw (c_X5_existingLedger l h0 e3) h0 (by decide) rfl (mkV 1 hts k_ml_RX5_80 k_im_yX5_existingLedger k_se_yX5_existingLedger k_in_RX5 k_co_yX5_existingLedger hd_X5_existingLedger ⟨Nat.le_of_ble_eq_true rfl, Nat.le_of_ble_eq_true rfl⟩) rfl hl.1 rfl (Nat.le_of_ble_eq_true rfl) dX5_underReplicated_6 ⟨Nat.le_of_ble_eq_true rfl, Nat.le_of_ble_eq_true rfl⟩) (fun H locs hw => ?_)
  have hp4 := t_X5_existingLedger h0 e3
  obtain ⟨z5, e6, hm⟩ := bd_some hm
  refine ki hw Fr_hi (rV hx hb hml hts hown hK hw (c_X3_countUnderReplicated l hp1 hp4 e6) hp1 (by decide) rfl (mkV 1 hts k_ml_RX5_209 k_im_yX3_countUnderReplicated k_se_yX3_countUnderReplicated k_in_RX3 k_co_yX3_countUnderReplicated hd_X3_countUnderReplicated ⟨Nat.le_of_ble_eq_true rfl, Nat.le_of_ble_eq_true rfl⟩) rfl hl.1 rfl (Nat.le_of_ble_eq_true rfl) dX5_underReplicated_9 ⟨Nat.le_of_ble_eq_true rfl, Nat.le_of_ble_eq_true rfl⟩) (fun H locs hw => ?_)
  cases hm
  exact eI hx hb hr hlocks hK hw dX5_underReplicated_12
set_option maxHeartbeats 4000000 in
set_option maxRecDepth 100000 in
theorem c_X5_undo (l : Launch) {D : va_G} {cy : Nat → ClassId} {A : Nat → Nat} {G : Nat → Bool} {M : Mem} {sz : Nat} {a0 : Nat} (h0 : TT G 4 a0)  {z : (Int32 × Mem)} (hm : m_X5_undo a0 G M = some z) : Met l yX5_undo (wm yX5_undo cX5_undo 1 (some .int)) ({ frames := 5, cells := 0, slots := 0, locals := 129 } : Room) (va_Pc [.ref (A a0)] (Pr D cy A G M sz)) (va_Qi (fun (r' : Int32) (u : Mem) => r' = z.1 ∧ u = z.2) (Po D cy A G (Fr A G sz)) (Fr A G sz))  0 0 (Fr A G sz) := by
  refine ofB (Qc := fun sz => va_Qi (fun (r' : Int32) (u : Mem) => r' = z.1 ∧ u = z.2) (Po D cy A G (Fr A G sz)) (Fr A G sz)) (by decide +kernel) (Nat.le_of_ble_eq_true rfl) ?_
  intro p e s m below meth c hx hb hr hts hown hlocks hml hmn hK hw ls hl
  have hl : lv_has ls 1 [(0, .ref (A a0))] := hl
  unfold m_X5_undo at hm
  revert hw
  suffices K : ∀ (H : Heap) (locs : List Loc), WD D cy (Fr A G s.heap.size) A s.heap G M H locs → W p l e (headSpec (wm yX5_undo cX5_undo 1 (some .int)) ({ frames := 5, cells := 0, slots := 0, locals := 129 } : Room)).room s m ([.ref (A a0)] : List Value).toArray below meth c H locs 0 0 (MQ below (va_Qi (fun (r' : Int32) (u : Mem) => r' = z.1 ∧ u = z.2) (Po D cy A G (Fr A G s.heap.size)) (Fr A G s.heap.size)) ([.ref (A a0)] : List Value).toArray s 0 0 (Fr A G s.heap.size)) (F0 m 0 ls []) from fun hw => K _ _ hw
  intro H locs hw
  refine lv_aload_n hx hb dX5_undo_0 rfl (lv_at hl 0 rfl) ?_
  refine g4 hx hb hts hown hK hw h0 1 (by decide) (.ref (A 1)) rfl k_fl_RX5_19 (fun _ h => h) dX5_undo_1 ?_
  have hp1 := ls_p h0
  refine g3 hx hb hts hown hK hw hp1 0 (by decide) (.int (gF M 1 0)) rfl k_fl_RX5_212 (fun _ h => h) dX5_undo_4 ?_
  refine lv_iconst (v := 1) hx hb dX5_undo_7 (by decide) ?_
  refine lv_icmp_ge (tgt := 21) hx hb dX5_undo_8 (by decide) (fun hq2 => ?_) (fun hq2 => ?_)
  · have hm := (if_pos hq2).symm.trans hm
    refine lv_aload_n hx hb dX5_undo_21 rfl (lv_at hl 0 rfl) ?_
    refine g4 hx hb hts hown hK hw h0 1 (by decide) (.ref (A 1)) rfl k_fl_RX5_19 (fun _ h => h) dX5_undo_22 ?_
    have hp3 := ls_p h0
    refine lv_aload_n hx hb dX5_undo_25 rfl (lv_at hl 0 rfl) ?_
    refine g4 hx hb hts hown hK hw h0 0 (by decide) (.ref (A 64)) rfl k_fl_RX5_12 (fun _ h => h) dX5_undo_26 ?_
    have hp4 := ls_n h0
    obtain ⟨z5, e6, hm⟩ := bd_some hm
    refine kv hw Fr_hi (rV hx hb hml hts hown hK hw (c_X4_popInto l hp3 hp4 e6) hp3 (by decide) rfl (mkV 1 hts k_ml_RX5_217 k_im_yX4_popInto k_se_yX4_popInto k_in_RX4 k_co_yX4_popInto hd_X4_popInto ⟨Nat.le_of_ble_eq_true rfl, Nat.le_of_ble_eq_true rfl⟩) rfl hl.1 rfl (Nat.le_of_ble_eq_true rfl) dX5_undo_29 ⟨Nat.le_of_ble_eq_true rfl, Nat.le_of_ble_eq_true rfl⟩) (fun H locs hw => ?_)
    refine lv_aload_n hx hb dX5_undo_32 rfl (lv_at hl 0 rfl) ?_
    refine g4 hx hb hts hown hK hw h0 1 (by decide) (.ref (A 1)) rfl k_fl_RX5_19 (fun _ h => h) dX5_undo_33 ?_
    have hp7 := ls_p h0
    refine g3 hx hb hts hown hK hw hp7 0 (by decide) (.int (gF z5 1 0)) rfl k_fl_RX5_212 (fun _ h => h) dX5_undo_36 ?_
    cases hm
    exact eI hx hb hr hlocks hK hw dX5_undo_39
  · have hm := (if_neg hq2).symm.trans hm
    cases hm
