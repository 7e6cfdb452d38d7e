set_option maxHeartbeats 4000000 in
set_option maxRecDepth 100000 in
theorem c_Jxf58ca_isNaN_12338 (l : Launch) {D : va_G} {cy : Nat → ClassId} {A : Nat → Nat} {G : Nat → Bool} {M : Mem} {sz : Nat}   (x0 : UInt32)  : Met l yJxf58ca_isNaN_12338 (wm yJxf58ca_isNaN_12338 cJxf58ca_isNaN_12338 1 (some .boolean)) ({ frames := 0, cells := 0, slots := 0, locals := 0 } : Room) (va_Pc [.float x0] (Pr D cy A G M sz)) (va_Qi (fun (r' : Int32) (u : Mem) => r' = (m_Jxf58ca_isNaN_12338 x0) ∧ u = M) (Po D cy A G (Fr A G sz)) (Fr A G sz))  0 0 (Fr A G sz) := by
  refine ofBF (Qc := fun sz => va_Qi (fun (r' : Int32) (u : Mem) => r' = (m_Jxf58ca_isNaN_12338 x0) ∧ u = M) (Po D cy A G (Fr A G sz)) (Fr A G sz)) (by decide +kernel) (Nat.le_of_ble_eq_true rfl) ?_
  intro p e s m below meth c hx hb hr hts hown hlocks hml hmn hK hw ls hl
  have hl : lv_has ls 1 [(0, .float x0)] := hl
  generalize hm : m_Jxf58ca_isNaN_12338 x0 = z
  unfold m_Jxf58ca_isNaN_12338 at hm
  revert hw
  suffices K : ∀ (H : Heap) (locs : List Loc), WD D cy (Fr A G s.heap.size) A s.heap G M H locs → W p l e (headSpec (wm yJxf58ca_isNaN_12338 cJxf58ca_isNaN_12338 1 (some .boolean)) ({ frames := 0, cells := 0, slots := 0, locals := 0 } : Room)).room s m ([.float x0] : List Value).toArray below meth c H locs 0 0 (MQ below (va_Qi (fun (r' : Int32) (u : Mem) => r' = z ∧ u = M) (Po D cy A G (Fr A G s.heap.size)) (Fr A G s.heap.size)) ([.float x0] : List Value).toArray s 0 0 (Fr A G s.heap.size)) (F0 m 0 ls []) from fun hw => K _ _ hw
  intro H locs hw
  refine lv_fload_n hx hb dJxf58ca_isNaN_12338_0 rfl (lv_at hl 0 rfl) ?_
  refine lv_fload_n hx hb dJxf58ca_isNaN_12338_1 rfl (lv_at hl 0 rfl) ?_
  refine lv_fcmp hx hb dJxf58ca_isNaN_12338_2 ?_
  refine lv_if_eq (tgt := 10) hx hb dJxf58ca_isNaN_12338_3 (by decide) (fun hq1 => ?_) (fun hq1 => ?_)
  · have hm := (if_pos hq1).symm.trans hm
    refine lv_iconst (v := 0) hx hb dJxf58ca_isNaN_12338_10 (by decide) ?_
    cases hm
    exact eZ (show zb 0 by decide) hx hb hr hlocks hK hw dJxf58ca_isNaN_12338_11
  · have hm := (if_neg hq1).symm.trans hm
    refine lv_iconst (v := 1) hx hb dJxf58ca_isNaN_12338_6 (by decide) ?_
    refine lv_goto (tgt := 11) hx hb dJxf58ca_isNaN_12338_7 (by decide) ?_
    cases hm
    exact eZ (show zb 1 by decide) hx hb hr hlocks hK hw dJxf58ca_isNaN_12338_11
set_option maxHeartbeats 4000000 in
set_option maxRecDepth 100000 in
theorem c_Jxf58ca_floatToIntBits_5c35a (l : Launch) {D : va_G} {cy : Nat → ClassId} {A : Nat → Nat} {G : Nat → Bool} {M : Mem} {sz : Nat}   (x0 : UInt32)  : Met l yJxf58ca_floatToIntBits_5c35a (wm yJxf58ca_floatToIntBits_5c35a cJxf58ca_floatToIntBits_5c35a 1 (some .int)) ({ frames := 1, cells := 0, slots := 0, locals := 40 } : Room) (va_Pc [.float x0] (Pr D cy A G M sz)) (va_Qi (fun (r' : Int32) (u : Mem) => r' = (m_Jxf58ca_floatToIntBits_5c35a x0) ∧ u = M) (Po D cy A G (Fr A G sz)) (Fr A G sz))  0 0 (Fr A G sz) := by
  refine ofBF (Qc := fun sz => va_Qi (fun (r' : Int32) (u : Mem) => r' = (m_Jxf58ca_floatToIntBits_5c35a x0) ∧ u = M) (Po D cy A G (Fr A G sz)) (Fr A G sz)) (by decide +kernel) (Nat.le_of_ble_eq_true rfl) ?_
  intro p e s m below meth c hx hb hr hts hown hlocks hml hmn hK hw ls hl
  have hl : lv_has ls 1 [(0, .float x0)] := hl
  generalize hm : m_Jxf58ca_floatToIntBits_5c35a x0 = z
  unfold m_Jxf58ca_floatToIntBits_5c35a at hm
  revert hw
  suffices K : ∀ (H : Heap) (locs : List Loc), WD D cy (Fr A G s.heap.size) A s.heap G M H locs → W p l e (headSpec (wm yJxf58ca_floatToIntBits_5c35a cJxf58ca_floatToIntBits_5c35a 1 (some .int)) ({ frames := 1, cells := 0, slots := 0, locals := 40 } : Room)).room s m ([.float x0] : List Value).toArray below meth c H locs 0 0 (MQ below (va_Qi (fun (r' : Int32) (u : Mem) => r' = z ∧ u = M) (Po D cy A G (Fr A G s.heap.size)) (Fr A G s.heap.size)) ([.float x0] : List Value).toArray s 0 0 (Fr A G s.heap.size)) (F0 m 0 ls []) from fun hw => K _ _ hw
  intro H locs hw
  refine lv_fload_n hx hb dJxf58ca_floatToIntBits_5c35a_0 rfl (lv_at hl 0 rfl) ?_
  refine ki hw Fr_hi (rS hx hb hml hts hown hK hw (c_Jxf58ca_isNaN_12338 l x0) (mkS 1 hts k_ml_RJxf58ca_59 k_st_yJxf58ca_isNaN_12338 k_in_RJxf58ca k_co_yJxf58ca_isNaN_12338 hd_Jxf58ca_isNaN_12338 ⟨Nat.le_of_ble_eq_true rfl, Nat.le_of_ble_eq_true rfl⟩) rfl hl.1 rfl (Nat.le_of_ble_eq_true rfl) dJxf58ca_floatToIntBits_5c35a_1 ⟨Nat.le_of_ble_eq_true rfl, Nat.le_of_ble_eq_true rfl⟩) (fun H locs hw => ?_)
  refine lv_if_ne (tgt := 12) hx hb dJxf58ca_floatToIntBits_5c35a_4 (by decide) (fun hq1 => ?_) (fun hq1 => ?_)
  · have hm := (if_neg hq1).symm.trans hm
    refine lv_ldc hx hb hown (hts _ k_ct_RJxf58ca_77) dJxf58ca_floatToIntBits_5c35a_12 ?_
    cases hm
    exact eI hx hb hr hlocks hK hw dJxf58ca_floatToIntBits_5c35a_14
  · have hm := (if_pos hq1).symm.trans hm
    refine lv_fload_n hx hb dJxf58ca_floatToIntBits_5c35a_7 rfl (lv_at hl 0 rfl) ?_
    refine vn_f2i hx hb (hml.trans hl.1.symm) hown (hts _ k_ml_RJxf58ca_74) (hts _ k_na_JFloat_floatToRawIntBits) (hts _ k_st_JFloat_floatToRawIntBits) (hts _ k_in_J_Float) (Nat.le_of_ble_eq_true rfl) (Nat.le_of_ble_eq_true rfl) dJxf58ca_floatToIntBits_5c35a_8 ?_
    cases hm
    exact eI hx hb hr hlocks hK hw dJxf58ca_floatToIntBits_5c35a_11
set_option maxHeartbeats 4000000 in
set_option maxRecDepth 100000 in
theorem c_X6_digest (l : Launch) {D : va_G} {cy : Nat → ClassId} {A : Nat → Nat} {G : Nat → Bool} {M : Mem} {sz : Nat} {a0 : Nat} (h0 : TT G 5 a0)  {z : (Int64 × Mem)} (hm : m_X6_digest a0 M = some z) : Met l yX6_digest (wm yX6_digest cX6_digest 2 (some .long)) ({ frames := 5, cells := 0, slots := 0, locals := 119 } : Room) (va_Pc [.ref (A a0)] (Pr D cy A G M sz)) (va_Ql (fun (r' : Int64) (u : Mem) => r' = z.1 ∧ u = z.2) (Po D cy A G (Fr A G sz)) (Fr A G sz))  0 0 (Fr A G sz) := by
  refine ofB (Qc := fun sz => va_Ql (fun (r' : Int64) (u : Mem) => r' = z.1 ∧ u = z.2) (Po D cy A G (Fr A G sz)) (Fr A G sz)) (by decide +kernel) (Nat.le_of_ble_eq_true rfl) ?_
  intro p e s m below meth c hx hb hr hts hown hlocks hml hmn hK hw ls hl
  have hl : lv_has ls 2 [(0, .ref (A a0))] := hl
  have J116 : ∀  (n : Nat) (v1 : Int32) (M : Mem), m_X6_digest_L116 a0 n v1 M = some z → ∀ (H : Heap) (locs : List Loc), WD D cy (Fr A G s.heap.size) A s.heap G M H locs → ∀ ls : Array Slot, lv_has ls 2 [(0, .ref (A a0)), (1, .int v1)] → W p l e (headSpec (wm yX6_digest cX6_digest 2 (some .long)) ({ frames := 5, cells := 0, slots := 0, locals := 119 } : Room)).room s m ([.ref (A a0)] : List Value).toArray below meth c H locs 0 0 (MQ below (va_Ql (fun (r' : Int64) (u : Mem) => r' = z.1 ∧ u = z.2) (Po D cy A G (Fr A G s.heap.size)) (Fr A G s.heap.size)) ([.ref (A a0)] : List Value).toArray s 0 0 (Fr A G s.heap.size)) (F0 m 116 ls []) := by
    intro n
    induction n with
    | zero =>
      intro v1 M hm
      cases (show (none : Option (Int64 × Mem)) = some z from hm)
    | succ n ih =>
      intro v1 M hm H locs hw ls hl
      have hm := (m_X6_digest_L116_s a0 n v1 M).symm.trans hm
      refine lv_iload_n hx hb dX6_digest_116 rfl (lv_at hl 1 rfl) ?_
      refine lv_aload_n hx hb dX6_digest_117 rfl (lv_at hl 0 rfl) ?_
      refine g5 hx hb hts hown hK hw h0 0 (by decide) (.ref (A 4)) rfl k_fl_RX6_7 (fun _ h => h) dX6_digest_118 ?_
      have hp10 := mo_s h0
      refine lv_iconst (v := 1) hx hb dX6_digest_121 (by decide) ?_
      obtain ⟨hi11, hm⟩ := ck_some hm
      refine gI hx hb hK hw hp10 hi11 dX6_digest_122 ?_
      refine lv_icmp_ge (tgt := 137) hx hb dX6_digest_123 (by decide) (fun hq12 => ?_) (fun hq12 => ?_)
      · have hm := (if_pos hq12).symm.trans hm
        refine lv_aload_n hx hb dX6_digest_137 rfl (lv_at hl 0 rfl) ?_
        refine g5 hx hb hts hown hK hw h0 4 (by decide) (.long (gh M)) rfl k_fl_RX6_156 (fun _ h => h) dX6_digest_138 ?_
        cases hm
        exact eL hx hb hr hlocks hK hw dX6_digest_141
      · have hm := (if_neg hq12).symm.trans hm
        refine lv_aload_n hx hb dX6_digest_126 rfl (lv_at hl 0 rfl) ?_
        refine lv_iload_n hx hb dX6_digest_127 rfl (lv_at hl 1 rfl) ?_
        obtain ⟨z13, e14, hm⟩ := bd_some hm
        refine kv hw Fr_hi (rV hx hb hml hts hown hK hw (c_X6_addLedger l h0 e14) h0 (by decide) rfl (mkV 1 hts k_ml_RX6_171 k_im_yX6_addLedger k_se_yX6_addLedger k_in_RX6 k_co_yX6_addLedger hd_X6_addLedger ⟨Nat.le_of_ble_eq_true rfl, Nat.le_of_ble_eq_true rfl⟩) rfl hl.1 rfl (Nat.le_of_ble_eq_true rfl) dX6_digest_128 ⟨Nat.le_of_ble_eq_true rfl, Nat.le_of_ble_eq_true rfl⟩) (fun H locs hw => ?_)
        refine lv_iinc (v := (v1 + 1)) (lv' := [(1, .int (v1 + 1)), (0, .ref (A a0))]) hx hb dX6_digest_131 hl (k := 1) rfl rfl (by decide) rfl (fun ls hl => ?_)
        refine lv_goto (tgt := 116) hx hb dX6_digest_134 (by decide) ?_
        exact ih (v1 + 1) z13 hm H locs hw ls (lv_sub hl [1, 0] rfl)
  have J42 : ∀  (n : Nat) (v1 : Int32) (M : Mem), m_X6_digest_L42 a0 n v1 M = some z → ∀ (H : Heap) (locs : List Loc), WD D cy (Fr A G s.heap.size) A s.heap G M H locs → ∀ ls : Array Slot, lv_has ls 2 [(0, .ref (A a0)), (1, .int v1)] → W p l e (headSpec (wm yX6_digest cX6_digest 2 (some .long)) ({ frames := 5, cells := 0, slots := 0, locals := 119 } : Room)).room s m ([.ref (A a0)] : List Value).toArray below meth c H locs 0 0 (MQ below (va_Ql (fun (r' : Int64) (u : Mem) => r' = z.1 ∧ u = z.2) (Po D cy A G (Fr A G s.heap.size)) (Fr A G s.heap.size)) ([.ref (A a0)] : List Value).toArray s 0 0 (Fr A G s.heap.size)) (F0 m 42 ls []) := by
    intro n
    induction n with
    | zero =>
      intro v1 M hm
      cases (show (none : Option (Int64 × Mem)) = some z from hm)
    | succ n ih =>
      intro v1 M hm H locs hw ls hl
      have hm := (m_X6_digest_L42_s a0 n v1 M).symm.trans hm
      refine lv_iload_n hx hb dX6_digest_42 rfl (lv_at hl 1 rfl) ?_
      refine lv_aload_n hx hb dX6_digest_43 rfl (lv_at hl 0 rfl) ?_
      refine g5 hx hb hts hown hK hw h0 0 (by decide) (.ref (A 4)) rfl k_fl_RX6_7 (fun _ h => h) dX6_digest_44 ?_
      have hp5 := mo_s h0
      refine lv_iconst (v := 0) hx hb dX6_digest_47 (by decide) ?_
      obtain ⟨hi6, hm⟩ := ck_some hm
      refine gI hx hb hK hw hp5 hi6 dX6_digest_48 ?_
      refine lv_icmp_ge (tgt := 104) hx hb dX6_digest_49 (by decide) (fun hq7 => ?_) (fun hq7 => ?_)
      · have hm := (if_pos hq7).symm.trans hm
        refine lv_aload_n hx hb dX6_digest_104 rfl (lv_at hl 0 rfl) ?_
        refine lv_aload_n hx hb dX6_digest_105 rfl (lv_at hl 0 rfl) ?_
        refine g5 hx hb hts hown hK hw h0 0 (by decide) (.ref (A 4)) rfl k_fl_RX6_7 (fun _ h => h) dX6_digest_106 ?_
        have hp8 := mo_s h0
        refine lv_iconst (v := 1) hx hb dX6_digest_109 (by decide) ?_
        obtain ⟨hi9, hm⟩ := ck_some hm
        refine gI hx hb hK hw hp8 hi9 dX6_digest_110 ?_
        refine kv hw Fr_hi (rV hx hb hml hts hown hK hw (c_X6_add l h0 (gR M 4 (cl 1))) h0 (by decide) rfl (mkV 1 hts k_ml_RX6_160 k_im_yX6_add k_se_yX6_add k_in_RX6 k_co_yX6_add hd_X6_add ⟨Nat.le_of_ble_eq_true rfl, Nat.le_of_ble_eq_true rfl⟩) rfl hl.1 rfl (Nat.le_of_ble_eq_true rfl) dX6_digest_111 ⟨Nat.le_of_ble_eq_true rfl, Nat.le_of_ble_eq_true rfl⟩) (fun H locs hw => ?_)
        refine lv_iconst (v := 0) hx hb dX6_digest_114 (by decide) ?_
        refine lv_istore_n (lv' := [(1, .int 0), (0, .ref (A a0))]) hx hb dX6_digest_115 rfl hl (by decide) rfl (fun ls hl => ?_)
        exact J116 fuel 0 (m_X6_add a0 (gR M 4 (cl 1)) M) hm H locs hw ls (lv_sub hl [1, 0] rfl)
      · have hm := (if_neg hq7).symm.trans hm
        refine lv_aload_n hx hb dX6_digest_52 rfl (lv_at hl 0 rfl) ?_
        refine lv_aload_n hx hb dX6_digest_53 rfl (lv_at hl 0 rfl) ?_
        refine g5 hx hb hts hown hK hw h0 0 (by decide) (.ref (A 4)) rfl k_fl_RX6_7 (fun _ h => h) dX6_digest_54 ?_
        have hp15 := mo_s h0
        refine lv_iconst (v := 3) hx hb dX6_digest_57 (by decide) ?_
        refine lv_iload_n hx hb dX6_digest_58 rfl (lv_at hl 1 rfl) ?_
        refine lv_iadd hx hb dX6_digest_59 ?_
        obtain ⟨hi16, hm⟩ := ck_some hm
        refine gI hx hb hK hw hp15 hi16 dX6_digest_60 ?_
        refine kv hw Fr_hi (rV hx hb hml hts hown hK hw (c_X6_add l h0 (gR M 4 (cl (3 + v1)))) h0 (by decide) rfl (mkV 1 hts k_ml_RX6_160 k_im_yX6_add k_se_yX6_add k_in_RX6 k_co_yX6_add hd_X6_add ⟨Nat.le_of_ble_eq_true rfl, Nat.le_of_ble_eq_true rfl⟩) rfl hl.1 rfl (Nat.le_of_ble_eq_true rfl) dX6_digest_61 ⟨Nat.le_of_ble_eq_true rfl, Nat.le_of_ble_eq_true rfl⟩) (fun H locs hw => ?_)
        refine lv_aload_n hx hb dX6_digest_64 rfl (lv_at hl 0 rfl) ?_
        refine lv_aload_n hx hb dX6_digest_65 rfl (lv_at hl 0 rfl) ?_
        refine g5 hx hb hts hown hK hw h0 0 (by decide) (.ref (A 4)) rfl k_fl_RX6_7 (fun _ h => h) dX6_digest_66 ?_
        have hp17 := mo_s h0
        refine lv_bipush (v := 11) hx hb dX6_digest_69 (by decide) ?_
        refine lv_iload_n hx hb dX6_digest_71 rfl (lv_at hl 1 rfl) ?_
        refine lv_iadd hx hb dX6_digest_72 ?_
        obtain ⟨hi18, hm⟩ := ck_some hm
        refine gI hx hb hK hw hp17 hi18 dX6_digest_73 ?_
        refine kv hw Fr_hi (rV hx hb hml hts hown hK hw (c_X6_add l h0 (gR (m_X6_add a0 (gR M 4 (cl (3 + v1))) M) 4 (cl (11 + v1)))) h0 (by decide) rfl (mkV 1 hts k_ml_RX6_160 k_im_yX6_add k_se_yX6_add k_in_RX6 k_co_yX6_add hd_X6_add ⟨Nat.le_of_ble_eq_true rfl, Nat.le_of_ble_eq_true rfl⟩) rfl hl.1 rfl (Nat.le_of_ble_eq_true rfl) dX6_digest_74 ⟨Nat.le_of_ble_eq_true rfl, Nat.le_of_ble_eq_true rfl⟩) (fun H locs hw => ?_)
        refine lv_aload_n hx hb dX6_digest_77 rfl (lv_at hl 0 rfl) ?_
        refine lv_aload_n hx hb dX6_digest_78 rfl (lv_at hl 0 rfl) ?_
        refine lv_iload_n hx hb dX6_digest_79 rfl (lv_at hl 1 rfl) ?_
        obtain ⟨z19, e20, hm⟩ := bd_some hm
        refine ki hw Fr_hi (rV hx hb hml hts hown hK hw (c_X6_weightOf l h0 e20) h0 (by decide) rfl (mkV 1 hts k_ml_RX6_53 k_im_yX6_weightOf k_se_yX6_weightOf k_in_RX6 k_co_yX6_weightOf hd_X6_weightOf ⟨Nat.le_of_ble_eq_true rfl, Nat.le_of_ble_eq_true rfl⟩) rfl hl.1 rfl (Nat.le_of_ble_eq_true rfl) dX6_digest_80 ⟨Nat.le_of_ble_eq_true rfl, Nat.le_of_ble_eq_true rfl⟩) (fun H locs hw => ?_)
        refine kv hw Fr_hi (rV hx hb hml hts hown hK hw (c_X6_add l h0 z19) h0 (by decide) rfl (mkV 1 hts k_ml_RX6_160 k_im_yX6_add k_se_yX6_add k_in_RX6 k_co_yX6_add hd_X6_add ⟨Nat.le_of_ble_eq_true rfl, Nat.le_of_ble_eq_true rfl⟩) rfl hl.1 rfl (Nat.le_of_ble_eq_true rfl) dX6_digest_83 ⟨Nat.le_of_ble_eq_true rfl, Nat.le_of_ble_eq_true rfl⟩) (fun H locs hw => ?_)
        refine lv_aload_n hx hb dX6_digest_86 rfl (lv_at hl 0 rfl) ?_
        refine lv_aload_n hx hb dX6_digest_87 rfl (lv_at hl 0 rfl) ?_
        refine lv_iload_n hx hb dX6_digest_88 rfl (lv_at hl 1 rfl) ?_
        obtain ⟨z21, e22, hm⟩ := bd_some hm
        refine kf hw Fr_hi (rV hx hb hml hts hown hK hw (c_X6_shareOf l h0 e22) h0 (by decide) rfl (mkV 1 hts k_ml_RX6_91 k_im_yX6_shareOf k_se_yX6_shareOf k_in_RX6 k_co_yX6_shareOf hd_X6_shareOf ⟨Nat.le_of_ble_eq_true rfl, Nat.le_of_ble_eq_true rfl⟩) rfl hl.1 rfl (Nat.le_of_ble_eq_true rfl) dX6_digest_89 ⟨Nat.le_of_ble_eq_true rfl, Nat.le_of_ble_eq_true rfl⟩) (fun H locs hw => ?_)
        refine ki hw Fr_hi (rS hx hb hml hts hown hK hw (c_Jxf58ca_floatToIntBits_5c35a l z21) (mkS 1 hts k_ml_RX6_165 k_st_yJxf58ca_floatToIntBits_5c35a k_in_RJxf58ca k_co_yJxf58ca_floatToIntBits_5c35a hd_Jxf58ca_floatToIntBits_5c35a ⟨Nat.le_of_ble_eq_true rfl, Nat.le_of_ble_eq_true rfl⟩) rfl hl.1 rfl (Nat.le_of_ble_eq_true rfl) dX6_digest_92 ⟨Nat.le_of_ble_eq_true rfl, Nat.le_of_ble_eq_true rfl⟩) (fun H locs hw => ?_)
        refine kv hw Fr_hi (rV hx hb hml hts hown hK hw (c_X6_add l h0 (m_Jxf58ca_floatToIntBits_5c35a z21)) h0 (by decide) rfl (mkV 1 hts k_ml_RX6_160 k_im_yX6_add k_se_yX6_add k_in_RX6 k_co_yX6_add hd_X6_add ⟨Nat.le_of_ble_eq_true rfl, Nat.le_of_ble_eq_true rfl⟩) rfl hl.1 rfl (Nat.le_of_ble_eq_true rfl) dX6_digest_95 ⟨Nat.le_of_ble_eq_true rfl, Nat.le_of_ble_eq_true rfl⟩) (fun H locs hw => ?_)
        refine lv_iinc (v := (v1 + 1)) (lv' := [(1, .int (v1 + 1)), (0, .ref (A a0))]) hx hb dX6_digest_98 hl (k := 1) rfl rfl (by decide) rfl (fun ls hl => ?_)
        refine lv_goto (tgt := 42) hx hb dX6_digest_101 (by decide) ?_
        exact ih (v1 + 1) (m_X6_add a0 (m_Jxf58ca_floatToIntBits_5c35a z21) (m_X6_add a0 z19 (m_X6_add a0 (gR (m_X6_add a0 (gR M 4 (cl (3 + v1))) M) 4 (cl (11 + v1))) (m_X6_add a0 (gR M 4 (cl (3 + v1))) M)))) hm H locs hw ls (lv_sub hl [1, 0] rfl)
  unfold m_X6_digest at hm
  revert hw
  suffices K : ∀ (H : Heap) (locs : List Loc), WD D cy (Fr A G s.heap.size) A s.heap G M H locs → W p l e (headSpec (wm yX6_digest cX6_digest 2 (some .long)) ({ frames := 5, cells := 0, slots := 0, locals := 119 } : Room)).room s m ([.ref (A a0)] : List Value).toArray below meth c H locs 0 0 (MQ below (va_Ql (fun (r' : Int64) (u : Mem) => r' = z.1 ∧ u = z.2) (Po D cy A G (Fr A G s.heap.size)) (Fr A G s.heap.size)) ([.ref (A a0)] : List Value).toArray s 0 0 (Fr A G s.heap.size)) (F0 m 0 ls []) from fun hw => K _ _ hw
  intro H locs hw
  refine lv_aload_n hx hb dX6_digest_0 rfl (lv_at hl 0 rfl) ?_
  refine lv_iconst (v := 0) hx hb dX6_digest_1 (by decide) ?_
  refine p5 hx hb hts hown hK hw h0 3 (by decide) k_fl_RX6_20 (fun _ h => h) dX6_digest_2 (fun H locs hw => ?_)
  refine lv_aload_n hx hb dX6_digest_5 rfl (lv_at hl 0 rfl) ?_
  refine lv_ldc2 hx hb hown (hts _ k_ct_RX6_163) dX6_digest_6 ?_
  refine p5h hx hb hts hown hK hw h0 k_fl_RX6_156 (fun _ h => h) dX6_digest_9 (fun H locs hw => ?_)
  refine lv_aload_n hx hb dX6_digest_12 rfl (lv_at hl 0 rfl) ?_
  refine lv_aload_n hx hb dX6_digest_13 rfl (lv_at hl 0 rfl) ?_
  refine g5 hx hb hts hown hK hw h0 2 (by decide) (.int (gF (sh 12109 (sF a0 3 0 M)) a0 2)) rfl k_fl_RX6_16 (fun _ h => h) dX6_digest_14 ?_
  refine kv hw Fr_hi (rV hx hb hml hts hown hK hw (c_X6_add l h0 (gF (sh 12109 (sF a0 3 0 M)) a0 2)) h0 (by decide) rfl (mkV 1 hts k_ml_RX6_160 k_im_yX6_add k_se_yX6_add k_in_RX6 k_co_yX6_add hd_X6_add ⟨Nat.le_of_ble_eq_true rfl, Nat.le_of_ble_eq_true rfl⟩) rfl hl.1 rfl (Nat.le_of_ble_eq_true rfl) dX6_digest_17 ⟨Nat.le_of_ble_eq_true rfl, Nat.le_of_ble_eq_true rfl⟩) (fun H locs hw => ?_)
  refine lv_aload_n hx hb dX6_digest_20 rfl (lv_at hl 0 rfl) ?_
  refine lv_aload_n hx hb dX6_digest_21 rfl (lv_at hl 0 rfl) ?_
  refine g5 hx hb hts hown hK hw h0 0 (by decide) (.ref (A 4)) rfl k_fl_RX6_7 (fun _ h => h) dX6_digest_22 ?_
  have hp1 := mo_s h0
  refine lv_iconst (v := 2) hx hb dX6_digest_25 (by decide) ?_
  obtain ⟨hi2, hm⟩ := ck_some hm
  refine gI hx hb hK hw hp1 hi2 dX6_digest_26 ?_
  refine kv hw Fr_hi (rV hx hb hml hts hown hK hw (c_X6_add l h0 (gR (m_X6_add a0 (gF (sh 12109 (sF a0 3 0 M)) a0 2) (sh 12109 (sF a0 3 0 M))) 4 (cl 2))) h0 (by decide) rfl (mkV 1 hts k_ml_RX6_160 k_im_yX6_add k_se_yX6_add k_in_RX6 k_co_yX6_add hd_X6_add ⟨Nat.le_of_ble_eq_true rfl, Nat.le_of_ble_eq_true rfl⟩) rfl hl.1 rfl (Nat.le_of_ble_eq_true rfl) dX6_digest_27 ⟨Nat.le_of_ble_eq_true rfl, Nat.le_of_ble_eq_true rfl⟩) (fun H locs hw => ?_)
  refine lv_aload_n hx hb dX6_digest_30 rfl (lv_at hl 0 rfl) ?_
  refine lv_aload_n hx hb dX6_digest_31 rfl (lv_at hl 0 rfl) ?_
  refine g5 hx hb hts hown hK hw h0 0 (by decide) (.ref (A 4)) rfl k_fl_RX6_7 (fun _ h => h) dX6_digest_32 ?_
  have hp3 := mo_s h0
  refine lv_iconst (v := 0) hx hb dX6_digest_35 (by decide) ?_
  obtain ⟨hi4, hm⟩ := ck_some hm
  refine gI hx hb hK hw hp3 hi4 dX6_digest_36 ?_
  refine kv hw Fr_hi (rV hx hb hml hts hown hK hw (c_X6_add l h0 (gR (m_X6_add a0 (gR (m_X6_add a0 (gF (sh 12109 (sF a0 3 0 M)) a0 2) (sh 12109 (sF a0 3 0 M))) 4 (cl 2)) (m_X6_add a0 (gF (sh 12109 (sF a0 3 0 M)) a0 2) (sh 12109 (sF a0 3 0 M)))) 4 (cl 0))) h0 (by decide) rfl (mkV 1 hts k_ml_RX6_160 k_im_yX6_add k_se_yX6_add k_in_RX6 k_co_yX6_add hd_X6_add ⟨Nat.le_of_ble_eq_true rfl, Nat.le_of_ble_eq_true rfl⟩) rfl hl.1 rfl (Nat.le_of_ble_eq_true rfl) dX6_digest_37 ⟨Nat.le_of_ble_eq_true rfl, Nat.le_of_ble_eq_true rfl⟩) (fun H locs hw => ?_)
  refine lv_iconst (v := 0) hx hb dX6_digest_40 (by decide) ?_
  refine lv_istore_n (lv' := [(1, .int 0), (0, .ref (A a0))]) hx hb dX6_digest_41 rfl hl (by decide) rfl (fun ls hl => ?_)
  exact J42 fuel 0 (m_X6_add a0 (gR (m_X6_add a0 (gR (m_X6_add a0 (gF (sh 12109 (sF a0 3 0 M)) a0 2) (sh 12109 (sF a0 3 0 M))) 4 (cl 2)) (m_X6_add a0 (gF (sh 12109 (sF a0 3 0 M)) a0 2) (sh 12109 (sF a0 3 0 M)))) 4 (cl 0)) (m_X6_add a0 (gR (m_X6_add a0 (gF (sh 12109 (sF a0 3 0 M)) a0 2) (sh 12109 (sF a0 3 0 M))) 4 (cl 2)) (m_X6_add a0 (gF (sh 12109 (sF a0 3 0 M)) a0 2) (sh 12109 (sF a0 3 0 M))))) hm H locs hw ls (lv_sub hl [1, 0] rfl)
set_option maxHeartbeats 4000000 in
set_option maxRecDepth 100000 in
theorem c_X5_rejections (l : Launch) {D : va_G} {cy : Nat → ClassId} {A : Nat → Nat} {G : Nat → Bool} {M : Mem} {sz : Nat} {a0 : Nat} (h0 : TT G 4 a0)   : Met l yX5_rejections (wm yX5_rejections cX5_rejections 1 (some .int)) ({ frames := 0, cells := 0, slots := 0, locals := 0 } : Room) (va_Pc [.ref (A a0)] (Pr D cy A G M sz)) (va_Qi (fun (r' : Int32) (u : Mem) => r' = (m_X5_rejections a0 M) ∧ u = M) (Po D cy A G (Fr A G sz)) (Fr A G sz))  0 0 (Fr A G sz) := by
  refine ofB (Qc := fun sz => va_Qi (fun (r' : Int32) (u : Mem) => r' = (m_X5_rejections a0 M) ∧ u = M) (Po D cy A G (Fr A G sz)) (Fr A G sz)) (by decide +kernel) (Nat.le_of_ble_eq_true rfl) ?_
  intro p e s m below meth c hx hb hr hts hown hlocks hml hmn hK hw ls hl
  have hl : lv_has ls 1 [(0, .ref (A a0))] := hl
  generalize hm : m_X5_rejections a0 M = z
  unfold m_X5_rejections at hm
  revert hw
  suffices K : ∀ (H : Heap) (locs : List Loc), WD D cy (Fr A G s.heap.size) A s.heap G M H locs → W p l e (headSpec (wm yX5_rejections cX5_rejections 1 (some .int)) ({ frames := 0, cells := 0, slots := 0, locals := 0 } : Room)).room s m ([.ref (A a0)] : List Value).toArray below meth c H locs 0 0 (MQ below (va_Qi (fun (r' : Int32) (u : Mem) => r' = z ∧ u = M) (Po D cy A G (Fr A G s.heap.size)) (Fr A G s.heap.size)) ([.ref (A a0)] : List Value).toArray s 0 0 (Fr A G s.heap.size)) (F0 m 0 ls []) from fun hw => K _ _ hw
  intro H locs hw
  refine lv_aload_n hx hb dX5_rejections_0 rfl (lv_at hl 0 rfl) ?_
  refine g4 hx hb hts hown hK hw h0 0 (by decide) (.ref (A 64)) rfl k_fl_RX5_12 (fun _ h => h) dX5_rejections_1 ?_
  have hp1 := ls_n h0
  refine g2 hx hb hts hown hK hw hp1 2 (by decide) (.int (gF M 64 2)) rfl k_fl_RX5_87 (fun _ h => h) dX5_rejections_4 ?_
  cases hm
  exact eI hx hb hr hlocks hK hw dX5_rejections_7
set_option maxHeartbeats 4000000 in
set_option maxRecDepth 100000 in
theorem c_X5_shareOf (l : Launch) {D : va_G} {cy : Nat → ClassId} {A : Nat → Nat} {G : Nat → Bool} {M : Mem} {sz : Nat} {a0 : Nat} {a1 : Nat} (h0 : TT G 4 a0) (h1 : TT G 1 a1)  {z : UInt32} (hm : m_X5_shareOf a0 a1 M = some z) : Met l yX5_shareOf (wm yX5_shareOf cX5_shareOf 3 (some .float)) ({ frames := 2, cells := 0, slots := 0, locals := 44 } : Room) (va_Pc [.ref (A a0), .ref (A a1)] (Pr D cy A G M sz)) (va_Qf (fun (r' : UInt32) (u : Mem) => r' = z ∧ u = M) (Po D cy A G (Fr A G sz)) (Fr A G sz))  0 0 (Fr A G sz) := by
  refine ofB (Qc := fun sz => va_Qf (fun (r' : UInt32) (u : Mem) => r' = z ∧ u = M) (Po D cy A G (Fr A G sz)) (Fr A G sz)) (by decide +kernel) (Nat.le_of_ble_eq_true rfl) ?_
  intro p e s m below meth c hx hb hr hts hown hlocks hml hmn hK hw ls hl
  have hl : lv_has ls 3 [(0, .ref (A a0)), (1, .ref (A a1))] := hl
  unfold m_X5_shareOf at hm
  revert hw
  suffices K : ∀ (H : Heap) (locs : List Loc), WD D cy (Fr A G s.heap.size) A s.heap G M H locs → W p l e (headSpec (wm yX5_shareOf cX5_shareOf 3 (some .float)) ({ frames := 2, cells := 0, slots := 0, locals := 44 } : Room)).room s m ([.ref (A a0), .ref (A a1)] : List Value).toArray below meth c H locs 0 0 (MQ below (va_Qf (fun (r' : UInt32) (u : Mem) => r' = z ∧ u = M) (Po D cy A G (Fr A G s.heap.size)) (Fr A G s.heap.size)) ([.ref (A a0), .ref (A a1)] : List Value).toArray s 0 0 (Fr A G s.heap.size)) (F0 m 0 ls []) from fun hw => K _ _ hw
  intro H locs hw
  refine lv_aload_n hx hb dX5_shareOf_0 rfl (lv_at hl 0 rfl) ?_
  refine g4 hx hb hts hown hK hw h0 0 (by decide) (.ref (A 64)) rfl k_fl_RX5_12 (fun _ h => h) dX5_shareOf_1 ?_
  have hp1 := ls_n h0
  obtain ⟨z2, e3, hm⟩ := bd_some hm
  refine ki hw Fr_hi (rV hx hb hml hts hown hK hw (c_X3_totalWeight l hp1 e3) hp1 (by decide) rfl (mkV 0 hts k_ml_RX5_261 k_im_yX3_totalWeight k_se_yX3_totalWeight k_in_RX3 k_co_yX3_totalWeight hd_X3_totalWeight ⟨Nat.le_of_ble_eq_true rfl, Nat.le_of_ble_eq_true rfl⟩) rfl hl.1 rfl (Nat.le_of_ble_eq_true rfl) dX5_shareOf_4 ⟨Nat.le_of_ble_eq_true rfl, Nat.le_of_ble_eq_true rfl⟩) (fun H locs hw => ?_)
  refine lv_istore_n (lv' := [(2, .int z2), (0, .ref (A a0)), (1, .ref (A a1))]) hx hb dX5_shareOf_7 rfl hl (by decide) rfl (fun ls hl => ?_)
  refine lv_iload_n hx hb dX5_shareOf_8 rfl (lv_at hl 0 rfl) ?_
  refine lv_if_ne (tgt := 16) hx hb dX5_shareOf_9 (by decide) (fun hq4 => ?_) (fun hq4 => ?_)
  · have hm := (if_neg hq4).symm.trans hm
    refine lv_aload_n hx hb dX5_shareOf_16 rfl (lv_at hl 2 rfl) ?_
    refine g1 hx hb hts hown hK hw h1 2 (by decide) (.int (gF M a1 2)) rfl k_fl_RX5_59 (fun _ h => h) dX5_shareOf_17 ?_
    refine lv_i2f hx hb dX5_shareOf_20 ?_
    refine lv_iload_n hx hb dX5_shareOf_21 rfl (lv_at hl 0 rfl) ?_
    refine lv_i2f hx hb dX5_shareOf_22 ?_
    obtain ⟨hz5, hm⟩ := ck_some hm
    refine lv_fdiv hx hb dX5_shareOf_23 hz5 ?_
    cases hm
    exact eF hx hb hr hlocks hK hw dX5_shareOf_24
  · have hm := (if_pos hq4).symm.trans hm
    refine lv_fconst0 hx hb dX5_shareOf_12 ?_
    refine lv_goto (tgt := 24) hx hb dX5_shareOf_13 (by decide) ?_
    cases hm
    exact eF hx hb hr hlocks hK hw dX5_shareOf_24
set_option maxHeartbeats 4000000 in
set_option maxRecDepth 100000 in
theorem c_X5_bitsOfShare (l : Launch) {D : va_G} {cy : Nat → ClassId} {A : Nat → Nat} {G : Nat → Bool} {M : Mem} {sz : Nat} {x0 : UInt32}   {z : Int32} (hm : m_X5_bitsOfShare x0 = some z) : Met l yX5_bitsOfShare (wm yX5_bitsOfShare cX5_bitsOfShare 3 (some .int)) ({ frames := 0, cells := 0, slots := 0, locals := 0 } : Room) (va_Pc [.float x0] (Pr D cy A G M sz)) (va_Qi (fun (r' : Int32) (u : Mem) => r' = z ∧ u = M) (Po D cy A G (Fr A G sz)) (Fr A G sz))  0 0 (Fr A G sz) := by
  refine ofB (Qc := fun sz => va_Qi (fun (r' : Int32) (u : Mem) => r' = z ∧ u = M) (Po D cy A G (Fr A G sz)) (Fr A G sz)) (by decide +kernel) (Nat.le_of_ble_eq_true rfl) ?_
  intro p e s m below meth c hx hb hr hts hown hlocks hml hmn hK hw ls hl
  have hl : lv_has ls 3 [(0, .float x0)] := hl
  have J34 : ∀  (v1 : UInt32) (v2 : Int32), m_X5_bitsOfShare_b34 x0 v1 v2 = some z → ∀ (H : Heap) (locs : List Loc), WD D cy (Fr A G s.heap.size) A s.heap G M H locs → ∀ ls : Array Slot, lv_has ls 3 [(1, .float v1), (2, .int v2)] → W p l e (headSpec (wm yX5_bitsOfShare cX5_bitsOfShare 3 (some .int)) ({ frames := 0, cells := 0, slots := 0, locals := 0 } : Room)).room s m ([.float x0] : List Value).toArray below meth c H locs 0 0 (MQ below (va_Qi (fun (r' : Int32) (u : Mem) => r' = z ∧ u = M) (Po D cy A G (Fr A G s.heap.size)) (Fr A G s.heap.size)) ([.float x0] : List Value).toArray s 0 0 (Fr A G s.heap.size)) (F0 m 34 ls []) := by
    intro v1 v2 hm H locs hw ls hl
    unfold m_X5_bitsOfShare_b34 at hm
    refine lv_iload_n hx hb dX5_bitsOfShare_34 rfl (lv_at hl 1 rfl) ?_
    refine lv_bipush (v := 23) hx hb dX5_bitsOfShare_35 (by decide) ?_
    refine lv_ishl hx hb dX5_bitsOfShare_37 ?_
    refine lv_fload_n hx hb dX5_bitsOfShare_38 rfl (lv_at hl 0 rfl) ?_
    refine lv_fconst1 hx hb dX5_bitsOfShare_39 ?_
    obtain ⟨hz3, hm⟩ := ck_some hm
    refine lv_fsub hx hb dX5_bitsOfShare_40 hz3 ?_
    refine lv_ldcfw hx hb hown (hts _ k_ct_RX5_264) dX5_bitsOfShare_41 ?_
    obtain ⟨hz4, hm⟩ := ck_some hm
    refine lv_fmul hx hb dX5_bitsOfShare_44 hz4 ?_
    refine lv_f2i hx hb dX5_bitsOfShare_45 ?_
    refine lv_iadd hx hb dX5_bitsOfShare_46 ?_
    cases hm
    exact eI hx hb hr hlocks hK hw dX5_bitsOfShare_47
  have J13 : ∀  (n : Nat) (v1 : UInt32) (v2 : Int32), m_X5_bitsOfShare_L13 x0 n v1 v2 = some z → ∀ (H : Heap) (locs : List Loc), WD D cy (Fr A G s.heap.size) A s.heap G M H locs → ∀ ls : Array Slot, lv_has ls 3 [(1, .float v1), (2, .int v2)] → W p l e (headSpec (wm yX5_bitsOfShare cX5_bitsOfShare 3 (some .int)) ({ frames := 0, cells := 0, slots := 0, locals := 0 } : Room)).room s m ([.float x0] : List Value).toArray below meth c H locs 0 0 (MQ below (va_Qi (fun (r' : Int32) (u : Mem) => r' = z ∧ u = M) (Po D cy A G (Fr A G s.heap.size)) (Fr A G s.heap.size)) ([.float x0] : List Value).toArray s 0 0 (Fr A G s.heap.size)) (F0 m 13 ls []) := by
    intro n
    induction n with
    | zero =>
      intro v1 v2 hm
      cases (show (none : Option Int32) = some z from hm)
    | succ n ih =>
      intro v1 v2 hm H locs hw ls hl
      have hm := (m_X5_bitsOfShare_L13_s x0 n v1 v2).symm.trans hm
      refine lv_fload_n hx hb dX5_bitsOfShare_13 rfl (lv_at hl 0 rfl) ?_
      refine lv_fconst1 hx hb dX5_bitsOfShare_14 ?_
      refine lv_fcmp hx hb dX5_bitsOfShare_15 ?_
      refine lv_if_ge (tgt := 34) hx hb dX5_bitsOfShare_16 (by decide) (fun hq2 => ?_) (fun hq2 => ?_)
      · have hm := (if_pos hq2).symm.trans hm
        exact J34 v1 v2 hm H locs hw ls hl
      · have hm := (if_neg hq2).symm.trans hm
        refine lv_iload_n hx hb dX5_bitsOfShare_19 rfl (lv_at hl 1 rfl) ?_
        refine lv_iconst (v := 1) hx hb dX5_bitsOfShare_20 (by decide) ?_
        refine lv_icmp_le (tgt := 34) hx hb dX5_bitsOfShare_21 (by decide) (fun hq5 => ?_) (fun hq5 => ?_)
        · have hm := (if_pos hq5).symm.trans hm
          exact J34 v1 v2 hm H locs hw ls hl
        · have hm := (if_neg hq5).symm.trans hm
          refine lv_fload_n hx hb dX5_bitsOfShare_24 rfl (lv_at hl 0 rfl) ?_
          refine lv_fconst2 hx hb dX5_bitsOfShare_25 ?_
          obtain ⟨hz6, hm⟩ := ck_some hm
          refine lv_fmul hx hb dX5_bitsOfShare_26 hz6 ?_
          refine lv_fstore_n (lv' := [(1, .float (FP.fmul v1 1073741824)), (2, .int v2)]) hx hb dX5_bitsOfShare_27 rfl hl (by decide) rfl (fun ls hl => ?_)
          refine lv_iinc (v := (v2 + (-1))) (lv' := [(2, .int (v2 + (-1))), (1, .float (FP.fmul v1 1073741824))]) hx hb dX5_bitsOfShare_28 hl (k := 1) rfl rfl (by decide) rfl (fun ls hl => ?_)
          refine lv_goto (tgt := 13) hx hb dX5_bitsOfShare_31 (by decide) ?_
          exact ih (FP.fmul v1 1073741824) (v2 + (-1)) hm H locs hw ls (lv_sub hl [1, 0] rfl)
  unfold m_X5_bitsOfShare at hm
  revert hw
  suffices K : ∀ (H : Heap) (locs : List Loc), WD D cy (Fr A G s.heap.size) A s.heap G M H locs → W p l e (headSpec (wm yX5_bitsOfShare cX5_bitsOfShare 3 (some .int)) ({ frames := 0, cells := 0, slots := 0, locals := 0 } : Room)).room s m ([.float x0] : List Value).toArray below meth c H locs 0 0 (MQ below (va_Qi (fun (r' : Int32) (u : Mem) => r' = z ∧ u = M) (Po D cy A G (Fr A G s.heap.size)) (Fr A G s.heap.size)) ([.float x0] : List Value).toArray s 0 0 (Fr A G s.heap.size)) (F0 m 0 ls []) from fun hw => K _ _ hw
  intro H locs hw
  refine lv_fload_n hx hb dX5_bitsOfShare_0 rfl (lv_at hl 0 rfl) ?_
  refine lv_fconst0 hx hb dX5_bitsOfShare_1 ?_
  refine lv_fcmp hx hb dX5_bitsOfShare_2 ?_
  refine lv_if_gt (tgt := 8) hx hb dX5_bitsOfShare_3 (by decide) (fun hq1 => ?_) (fun hq1 => ?_)
  · have hm := (if_pos hq1).symm.trans hm
    refine lv_fload_n hx hb dX5_bitsOfShare_8 rfl (lv_at hl 0 rfl) ?_
    refine lv_fstore_n (lv' := [(1, .float x0), (0, .float x0)]) hx hb dX5_bitsOfShare_9 rfl hl (by decide) rfl (fun ls hl => ?_)
    refine lv_bipush (v := 127) hx hb dX5_bitsOfShare_10 (by decide) ?_
    refine lv_istore_n (lv' := [(2, .int 127), (1, .float x0), (0, .float x0)]) hx hb dX5_bitsOfShare_12 rfl hl (by decide) rfl (fun ls hl => ?_)
    exact J13 fuel x0 127 hm H locs hw ls (lv_sub hl [1, 0] rfl)
  · have hm := (if_neg hq1).symm.trans hm
    refine lv_iconst (v := 0) hx hb dX5_bitsOfShare_6 (by decide) ?_
    cases hm
    exact eI hx hb hr hlocks hK hw dX5_bitsOfShare_7
set_option maxHeartbeats 4000000 in
set_option maxRecDepth 100000 in
theorem c_X5_digestNode (l : Launch) {D : va_G} {cy : Nat → ClassId} {A : Nat → Nat} {G : Nat → Bool} {M : Mem} {sz : Nat} {a0 : Nat} {x1 : Int64} {a3 : Nat} (h0 : TT G 4 a0) (h3 : TT G 1 a3)  {z : Int64} (hm : m_X5_digestNode a0 x1 a3 M = some z) : Met l yX5_digestNode (wm yX5_digestNode cX5_digestNode 6 (some .long)) ({ frames := 3, cells := 0, slots := 0, locals := 66 } : Room) (va_Pc [.ref (A a0), .long x1, .ref (A a3)] (Pr D cy A G M sz)) (va_Ql (fun (r' : Int64) (u : Mem) => r' = z ∧ u = M) (Po D cy A G (Fr A G sz)) (Fr A G sz))  0 0 (Fr A G sz) := by
  refine ofB (Qc := fun sz => va_Ql (fun (r' : Int64) (u : Mem) => r' = z ∧ u = M) (Po D cy A G (Fr A G sz)) (Fr A G sz)) (by decide +kernel) (Nat.le_of_ble_eq_true rfl) ?_
  intro p e s m below meth c hx hb hr hts hown hlocks hml hmn hK hw ls hl
  have hl : lv_has ls 6 [(0, .ref (A a0)), (1, .long x1), (3, .ref (A a3))] := hl
  have J23 : ∀  (u0 : Int64) (u1 : Int32), m_X5_digestNode_b23 a0 x1 a3 M u0 u1 = some z → ∀ (H : Heap) (locs : List Loc), WD D cy (Fr A G s.heap.size) A s.heap G M H locs → ∀ ls : Array Slot, lv_has ls 6 [(0, .ref (A a0)), (3, .ref (A a3))] → W p l e (headSpec (wm yX5_digestNode cX5_digestNode 6 (some .long)) ({ frames := 3, cells := 0, slots := 0, locals := 66 } : Room)).room s m ([.ref (A a0), .long x1, .ref (A a3)] : List Value).toArray below meth c H locs 0 0 (MQ below (va_Ql (fun (r' : Int64) (u : Mem) => r' = z ∧ u = M) (Po D cy A G (Fr A G s.heap.size)) (Fr A G s.heap.size)) ([.ref (A a0), .long x1, .ref (A a3)] : List Value).toArray s 0 0 (Fr A G s.heap.size)) (F0 m 23 ls [.int u1, .long u0]) := by
    intro u0 u1 hm H locs hw ls hl
    unfold m_X5_digestNode_b23 at hm
    refine lv_i2l (v := u1.toInt64) hx hb dX5_digestNode_23 rfl ?_
    refine lv_ladd hx hb dX5_digestNode_24 ?_
    refine lv_lstore (lv' := [(4, .long (u0 + u1.toInt64)), (0, .ref (A a0)), (3, .ref (A a3))]) hx hb dX5_digestNode_25 hl (by decide) rfl (fun ls hl => ?_)
    refine lv_ldc2 hx hb hown (hts _ k_ct_RX5_222) dX5_digestNode_27 ?_
    refine lv_lload hx hb dX5_digestNode_30 (lv_at hl 0 rfl) ?_
    refine lv_lmul hx hb dX5_digestNode_32 ?_
    refine lv_aload_n hx hb dX5_digestNode_33 rfl (lv_at hl 2 rfl) ?_
    refine g1 hx hb hts hown hK hw h3 3 (by decide) (.int (gF M a3 3)) rfl k_fl_RX5_54 (fun _ h => h) dX5_digestNode_34 ?_
    refine lv_i2l (v := (gF M a3 3).toInt64) hx hb dX5_digestNode_37 rfl ?_
    refine lv_ladd hx hb dX5_digestNode_38 ?_
    refine lv_lstore (lv' := [(4, .long ((31 * (u0 + u1.toInt64)) + (gF M a3 3).toInt64)), (0, .ref (A a0)), (3, .ref (A a3))]) hx hb dX5_digestNode_39 hl (by decide) rfl (fun ls hl => ?_)
    refine lv_ldc2 hx hb hown (hts _ k_ct_RX5_222) dX5_digestNode_41 ?_
    refine lv_lload hx hb dX5_digestNode_44 (lv_at hl 0 rfl) ?_
    refine lv_lmul hx hb dX5_digestNode_46 ?_
    refine lv_aload_n hx hb dX5_digestNode_47 rfl (lv_at hl 2 rfl) ?_
    refine g1 hx hb hts hown hK hw h3 2 (by decide) (.int (gF M a3 2)) rfl k_fl_RX5_59 (fun _ h => h) dX5_digestNode_48 ?_
    refine lv_i2l (v := (gF M a3 2).toInt64) hx hb dX5_digestNode_51 rfl ?_
    refine lv_ladd hx hb dX5_digestNode_52 ?_
    refine lv_lstore (lv' := [(4, .long ((31 * ((31 * (u0 + u1.toInt64)) + (gF M a3 3).toInt64)) + (gF M a3 2).toInt64)), (0, .ref (A a0)), (3, .ref (A a3))]) hx hb dX5_digestNode_53 hl (by decide) rfl (fun ls hl => ?_)
    refine lv_ldc2 hx hb hown (hts _ k_ct_RX5_222) dX5_digestNode_55 ?_
    refine lv_lload hx hb dX5_digestNode_58 (lv_at hl 0 rfl) ?_
    refine lv_lmul hx hb dX5_digestNode_60 ?_
    refine lv_aload_n hx hb dX5_digestNode_61 rfl (lv_at hl 1 rfl) ?_
    refine lv_aload_n hx hb dX5_digestNode_62 rfl (lv_at hl 2 rfl) ?_
    obtain ⟨z2, e3, hm⟩ := bd_some hm
    refine kf hw Fr_hi (rV hx hb hml hts hown hK hw (c_X5_shareOf l h0 h3 e3) h0 (by decide) rfl (mkV 1 hts k_ml_RX5_76 k_im_yX5_shareOf k_se_yX5_shareOf k_in_RX5 k_co_yX5_shareOf hd_X5_shareOf ⟨Nat.le_of_ble_eq_true rfl, Nat.le_of_ble_eq_true rfl⟩) rfl hl.1 rfl (Nat.le_of_ble_eq_true rfl) dX5_digestNode_63 ⟨Nat.le_of_ble_eq_true rfl, Nat.le_of_ble_eq_true rfl⟩) (fun H locs hw => ?_)
    obtain ⟨z4, e5, hm⟩ := bd_some hm
    refine ki hw Fr_hi (rS hx hb hml hts hown hK hw (c_X5_bitsOfShare l e5) (mkS 1 hts k_ml_RX5_238 k_st_yX5_bitsOfShare k_in_RX5 k_co_yX5_bitsOfShare hd_X5_bitsOfShare ⟨Nat.le_of_ble_eq_true rfl, Nat.le_of_ble_eq_true rfl⟩) rfl hl.1 rfl (Nat.le_of_ble_eq_true rfl) dX5_digestNode_66 ⟨Nat.le_of_ble_eq_true rfl, Nat.le_of_ble_eq_true rfl⟩) (fun H locs hw => ?_)
    refine lv_i2l (v := z4.toInt64) hx hb dX5_digestNode_69 rfl ?_
    refine lv_ladd hx hb dX5_digestNode_70 ?_
    cases hm
    exact eL hx hb hr hlocks hK hw dX5_digestNode_71
  unfold m_X5_digestNode at hm
  revert hw
  suffices K : ∀ (H : Heap) (locs : List Loc), WD D cy (Fr A G s.heap.size) A s.heap G M H locs → W p l e (headSpec (wm yX5_digestNode cX5_digestNode 6 (some .long)) ({ frames := 3, cells := 0, slots := 0, locals := 66 } : Room)).room s m ([.ref (A a0), .long x1, .ref (A a3)] : List Value).toArray below meth c H locs 0 0 (MQ below (va_Ql (fun (r' : Int64) (u : Mem) => r' = z ∧ u = M) (Po D cy A G (Fr A G s.heap.size)) (Fr A G s.heap.size)) ([.ref (A a0), .long x1, .ref (A a3)] : List Value).toArray s 0 0 (Fr A G s.heap.size)) (F0 m 0 ls []) from fun hw => K _ _ hw
  intro H locs hw
  refine lv_aload_n hx hb dX5_digestNode_0 rfl (lv_at hl 2 rfl) ?_
  refine lv_ifnonnull (tgt := 6) hx hb dX5_digestNode_1 (by decide) ?_
  refine lv_ldc2 hx hb hown (hts _ k_ct_RX5_222) dX5_digestNode_6 ?_
  refine lv_lload_n hx hb dX5_digestNode_9 rfl (lv_at hl 1 rfl) ?_
  refine lv_lmul hx hb dX5_digestNode_10 ?_
  refine lv_aload_n hx hb dX5_digestNode_11 rfl (lv_at hl 2 rfl) ?_
  refine g1 hx hb hts hown hK hw h3 0 (by decide) (.int (gF M a3 0)) rfl k_fl_RX5_46 (fun _ h => h) dX5_digestNode_12 ?_
  refine lv_if_eq (tgt := 22) hx hb dX5_digestNode_15 (by decide) (fun hq1 => ?_) (fun hq1 => ?_)
  · have hm := (if_pos hq1).symm.trans hm
    refine lv_iconst (v := 0) hx hb dX5_digestNode_22 (by decide) ?_
    exact J23 (31 * x1) 0 hm H locs hw ls (lv_sub hl [0, 2] rfl)
  · have hm := (if_neg hq1).symm.trans hm
    refine lv_iconst (v := 1) hx hb dX5_digestNode_18 (by decide) ?_
    refine lv_goto (tgt := 23) hx hb dX5_digestNode_19 (by decide) ?_
    exact J23 (31 * x1) 1 hm H locs hw ls (lv_sub hl [0, 2] rfl)
set_option maxHeartbeats 4000000 in
set_option maxRecDepth 100000 in
theorem c_X5_digestNode_N (l : Launch) {D : va_G} {cy : Nat → ClassId} {A : Nat → Nat} {G : Nat → Bool} {M : Mem} {sz : Nat} {a0 : Nat} {x1 : Int64} (h0 : TT G 4 a0)  {z : Int64} (hm : m_X5_digestNode_N a0 x1 M = some z) : Met l yX5_digestNode (wm yX5_digestNode cX5_digestNode 6 (some .long)) ({ frames := 3, cells := 0, slots := 0, locals := 66 } : Room) (va_Pc [.ref (A a0), .long x1, .null] (Pr D cy A G M sz)) (va_Ql (fun (r' : Int64) (u : Mem) => r' = z ∧ u = M) (Po D cy A G (Fr A G sz)) (Fr A G sz))  0 0 (Fr A G sz) := by
  refine ofB (Qc := fun sz => va_Ql (fun (r' : Int64) (u : Mem) => r' = z ∧ u = M) (Po D cy A G (Fr A G sz)) (Fr A G sz)) (by decide +kernel) (Nat.le_of_ble_eq_true rfl) ?_
  intro p e s m below meth c hx hb hr hts hown hlocks hml hmn hK hw ls hl
  have hl : lv_has ls 6 [(0, .ref (A a0)), (1, .long x1), (3, .null)] := hl
  unfold m_X5_digestNode_N at hm
  revert hw
  suffices K : ∀ (H : Heap) (locs : List Loc), WD D cy (Fr A G s.heap.size) A s.heap G M H locs → W p l e (headSpec (wm yX5_digestNode cX5_digestNode 6 (some .long)) ({ frames := 3, cells := 0, slots := 0, locals := 66 } : Room)).room s m ([.ref (A a0), .long x1, .null] : List Value).toArray below meth c H locs 0 0 (MQ below (va_Ql (fun (r' : Int64) (u : Mem) => r' = z ∧ u = M) (Po D cy A G (Fr A G s.heap.size)) (Fr A G s.heap.size)) ([.ref (A a0), .long x1, .null] : List Value).toArray s 0 0 (Fr A G s.heap.size)) (F0 m 0 ls []) from fun hw => K _ _ hw
  intro H locs hw
  refine lv_aload_nN hx hb dX5_digestNode_0 rfl (lv_at hl 2 rfl) ?_
  refine lv_ifnonnullN hx hb dX5_digestNode_1 ?_
  refine lv_lload_n hx hb dX5_digestNode_4 rfl (lv_at hl 1 rfl) ?_
  cases hm
  exact eL hx hb hr hlocks hK hw dX5_digestNode_5
set_option maxHeartbeats 4000000 in
set_option maxRecDepth 100000 in
theorem c_X5_digestFragments (l : Launch) {D : va_G} {cy : Nat → ClassId} {A : Nat → Nat} {G : Nat → Bool} {M : Mem} {sz : Nat} {x0 : Int64} {a2 : Nat} (h2 : TT G 0 a2)  {z : Int64} (hm : m_X5_digestFragments x0 a2 M = some z) : Met l yX5_digestFragments (wm yX5_digestFragments cX5_digestFragments 7 (some .long)) ({ frames := 2, cells := 0, slots := 0, locals := 45 } : Room) (va_Pc [.long x0, .ref (A a2)] (Pr D cy A G M sz)) (va_Ql (fun (r' : Int64) (u : Mem) => r' = z ∧ u = M) (Po D cy A G (Fr A G sz)) (Fr A G sz))  0 0 (Fr A G sz) := by
  refine ofB (Qc := fun sz => va_Ql (fun (r' : Int64) (u : Mem) => r' = z ∧ u = M) (Po D cy A G (Fr A G sz)) (Fr A G sz)) (by decide +kernel) (Nat.le_of_ble_eq_true rfl) ?_
  intro p e s m below meth c hx hb hr hts hown hlocks hml hmn hK hw ls hl
  have hl : lv_has ls 7 [(0, .long x0), (2, .ref (A a2))] := hl
  have J31 : ∀ (k5 : Int64 → Int32 → Option Int64) (jk5 : ∀ (v3 : Int64) (v5 : Int32), k5 v3 v5 = some z → ∀ (H : Heap) (locs : List Loc), WD D cy (Fr A G s.heap.size) A s.heap G M H locs → ∀ ls : Array Slot, lv_has ls 7 [(2, .ref (A a2)), (3, .long v3), (5, .int v5)] → W p l e (headSpec (wm yX5_digestFragments cX5_digestFragments 7 (some .long)) ({ frames := 2, cells := 0, slots := 0, locals := 45 } : Room)).room s m ([.long x0, .ref (A a2)] : List Value).toArray below meth c H locs 0 0 (MQ below (va_Ql (fun (r' : Int64) (u : Mem) => r' = z ∧ u = M) (Po D cy A G (Fr A G s.heap.size)) (Fr A G s.heap.size)) ([.long x0, .ref (A a2)] : List Value).toArray s 0 0 (Fr A G s.heap.size)) (F0 m 5 ls [])) (n : Nat) (v3 : Int64) (v5 : Int32) (v6 : Int32), m_X5_digestFragments_L31 x0 a2 M k5 n v3 v5 v6 = some z → ∀ (H : Heap) (locs : List Loc), WD D cy (Fr A G s.heap.size) A s.heap G M H locs → ∀ ls : Array Slot, lv_has ls 7 [(2, .ref (A a2)), (3, .long v3), (5, .int v5), (6, .int v6)] → W p l e (headSpec (wm yX5_digestFragments cX5_digestFragments 7 (some .long)) ({ frames := 2, cells := 0, slots := 0, locals := 45 } : Room)).room s m ([.long x0, .ref (A a2)] : List Value).toArray below meth c H locs 0 0 (MQ below (va_Ql (fun (r' : Int64) (u : Mem) => r' = z ∧ u = M) (Po D cy A G (Fr A G s.heap.size)) (Fr A G s.heap.size)) ([.long x0, .ref (A a2)] : List Value).toArray s 0 0 (Fr A G s.heap.size)) (F0 m 31 ls []) := by
    intro k5 jk5 n
    induction n with
    | zero =>
      intro v3 v5 v6 hm
      cases (show (none : Option Int64) = some z from hm)
    | succ n ih =>
      intro v3 v5 v6 hm H locs hw ls hl
      have hm := (m_X5_digestFragments_L31_s x0 a2 M k5 n v3 v5 v6).symm.trans hm
      refine lv_iload hx hb dX5_digestFragments_31 (lv_at hl 3 rfl) ?_
      refine lv_aload_n hx hb dX5_digestFragments_33 rfl (lv_at hl 0 rfl) ?_
      refine g0 hx hb hts hown hK hw h2 1 (by decide) (.int (gF M a2 1)) rfl k_fl_RX5_136 (fun _ h => h) dX5_digestFragments_34 ?_
      refine lv_icmp_ge (tgt := 62) hx hb dX5_digestFragments_37 (by decide) (fun hq4 => ?_) (fun hq4 => ?_)
      · have hm := (if_pos hq4).symm.trans hm
        refine lv_iinc (v := (v5 + 1)) (lv' := [(5, .int (v5 + 1)), (2, .ref (A a2)), (3, .long v3), (6, .int v6)]) hx hb dX5_digestFragments_62 hl (k := 2) rfl rfl (by decide) rfl (fun ls hl => ?_)
        refine lv_goto (tgt := 5) hx hb dX5_digestFragments_65 (by decide) ?_
        exact jk5 v3 (v5 + 1) hm H locs hw ls (lv_sub hl [1, 2, 0] rfl)
      · have hm := (if_neg hq4).symm.trans hm
        refine lv_ldc2 hx hb hown (hts _ k_ct_RX5_222) dX5_digestFragments_40 ?_
        refine lv_lload_n hx hb dX5_digestFragments_43 rfl (lv_at hl 1 rfl) ?_
        refine lv_lmul hx hb dX5_digestFragments_44 ?_
        refine lv_aload_n hx hb dX5_digestFragments_45 rfl (lv_at hl 0 rfl) ?_
        refine lv_iload hx hb dX5_digestFragments_46 (lv_at hl 2 rfl) ?_
        refine lv_iload hx hb dX5_digestFragments_48 (lv_at hl 3 rfl) ?_
        obtain ⟨z5, e6, hm⟩ := bd_some hm
        refine ki hw Fr_hi (rV hx hb hml hts hown hK hw (c_X0_nodeAt l h2 e6) h2 (by decide) rfl (mkV 2 hts k_ml_RX5_205 k_im_yX0_nodeAt k_se_yX0_nodeAt k_in_RX0 k_co_yX0_nodeAt hd_X0_nodeAt ⟨Nat.le_of_ble_eq_true rfl, Nat.le_of_ble_eq_true rfl⟩) rfl hl.1 rfl (Nat.le_of_ble_eq_true rfl) dX5_digestFragments_50 ⟨Nat.le_of_ble_eq_true rfl, Nat.le_of_ble_eq_true rfl⟩) (fun H locs hw => ?_)
        refine lv_i2l (v := z5.toInt64) hx hb dX5_digestFragments_53 rfl ?_
        refine lv_ladd hx hb dX5_digestFragments_54 ?_
        refine lv_lstore_n (lv' := [(3, .long ((31 * v3) + z5.toInt64)), (2, .ref (A a2)), (5, .int v5), (6, .int v6)]) hx hb dX5_digestFragments_55 rfl hl (by decide) rfl (fun ls hl => ?_)
        refine lv_iinc (v := (v6 + 1)) (lv' := [(6, .int (v6 + 1)), (3, .long ((31 * v3) + z5.toInt64)), (2, .ref (A a2)), (5, .int v5)]) hx hb dX5_digestFragments_56 hl (k := 3) rfl rfl (by decide) rfl (fun ls hl => ?_)
        refine lv_goto (tgt := 31) hx hb dX5_digestFragments_59 (by decide) ?_
        exact ih ((31 * v3) + z5.toInt64) v5 (v6 + 1) hm H locs hw ls (lv_sub hl [2, 1, 3, 0] rfl)
  have J5 : ∀  (n : Nat) (v3 : Int64) (v5 : Int32), m_X5_digestFragments_L5 x0 a2 M n v3 v5 = some z → ∀ (H : Heap) (locs : List Loc), WD D cy (Fr A G s.heap.size) A s.heap G M H locs → ∀ ls : Array Slot, lv_has ls 7 [(2, .ref (A a2)), (3, .long v3), (5, .int v5)] → W p l e (headSpec (wm yX5_digestFragments cX5_digestFragments 7 (some .long)) ({ frames := 2, cells := 0, slots := 0, locals := 45 } : Room)).room s m ([.long x0, .ref (A a2)] : List Value).toArray below meth c H locs 0 0 (MQ below (va_Ql (fun (r' : Int64) (u : Mem) => r' = z ∧ u = M) (Po D cy A G (Fr A G s.heap.size)) (Fr A G s.heap.size)) ([.long x0, .ref (A a2)] : List Value).toArray s 0 0 (Fr A G s.heap.size)) (F0 m 5 ls []) := by
    intro n
    induction n with
    | zero =>
      intro v3 v5 hm
      cases (show (none : Option Int64) = some z from hm)
    | succ n ih =>
      intro v3 v5 hm H locs hw ls hl
      have hm := (m_X5_digestFragments_L5_s x0 a2 M n v3 v5).symm.trans hm
      refine lv_iload hx hb dX5_digestFragments_5 (lv_at hl 2 rfl) ?_
      refine lv_aload_n hx hb dX5_digestFragments_7 rfl (lv_at hl 0 rfl) ?_
      refine g0 hx hb hts hown hK hw h2 7 (by decide) (.int (gF M a2 7)) rfl k_fl_RX5_196 (fun _ h => h) dX5_digestFragments_8 ?_
      refine lv_icmp_ge (tgt := 68) hx hb dX5_digestFragments_11 (by decide) (fun hq1 => ?_) (fun hq1 => ?_)
      · have hm := (if_pos hq1).symm.trans hm
        refine lv_lload_n hx hb dX5_digestFragments_68 rfl (lv_at hl 1 rfl) ?_
        cases hm
        exact eL hx hb hr hlocks hK hw dX5_digestFragments_69
      · have hm := (if_neg hq1).symm.trans hm
        refine lv_ldc2 hx hb hown (hts _ k_ct_RX5_222) dX5_digestFragments_14 ?_
        refine lv_lload_n hx hb dX5_digestFragments_17 rfl (lv_at hl 1 rfl) ?_
        refine lv_lmul hx hb dX5_digestFragments_18 ?_
        refine lv_aload_n hx hb dX5_digestFragments_19 rfl (lv_at hl 0 rfl) ?_
        refine lv_iload hx hb dX5_digestFragments_20 (lv_at hl 2 rfl) ?_
        obtain ⟨z2, e3, hm⟩ := bd_some hm
        refine ki hw Fr_hi (rV hx hb hml hts hown hK hw (c_X0_startOf l h2 e3) h2 (by decide) rfl (mkV 1 hts k_ml_RX5_202 k_im_yX0_startOf k_se_yX0_startOf k_in_RX0 k_co_yX0_startOf hd_X0_startOf ⟨Nat.le_of_ble_eq_true rfl, Nat.le_of_ble_eq_true rfl⟩) rfl hl.1 rfl (Nat.le_of_ble_eq_true rfl) dX5_digestFragments_22 ⟨Nat.le_of_ble_eq_true rfl, Nat.le_of_ble_eq_true rfl⟩) (fun H locs hw => ?_)
        refine lv_i2l (v := z2.toInt64) hx hb dX5_digestFragments_25 rfl ?_
        refine lv_ladd hx hb dX5_digestFragments_26 ?_
        refine lv_lstore_n (lv' := [(3, .long ((31 * v3) + z2.toInt64)), (2, .ref (A a2)), (5, .int v5)]) hx hb dX5_digestFragments_27 rfl hl (by decide) rfl (fun ls hl => ?_)
        refine lv_iconst (v := 0) hx hb dX5_digestFragments_28 (by decide) ?_
        refine lv_istore (lv' := [(6, .int 0), (3, .long ((31 * v3) + z2.toInt64)), (2, .ref (A a2)), (5, .int v5)]) hx hb dX5_digestFragments_29 hl (by decide) rfl (fun ls hl => ?_)
        exact J31 (fun w0 w1 => m_X5_digestFragments_L5 x0 a2 M n w0 w1) (fun w0 w1 hh H locs hw ls hl => ih w0 w1 hh H locs hw ls hl) fuel ((31 * v3) + z2.toInt64) v5 0 hm H locs hw ls (lv_sub hl [2, 1, 3, 0] rfl)
  unfold m_X5_digestFragments at hm
  revert hw
  suffices K : ∀ (H : Heap) (locs : List Loc), WD D cy (Fr A G s.heap.size) A s.heap G M H locs → W p l e (headSpec (wm yX5_digestFragments cX5_digestFragments 7 (some .long)) ({ frames := 2, cells := 0, slots := 0, locals := 45 } : Room)).room s m ([.long x0, .ref (A a2)] : List Value).toArray below meth c H locs 0 0 (MQ below (va_Ql (fun (r' : Int64) (u : Mem) => r' = z ∧ u = M) (Po D cy A G (Fr A G s.heap.size)) (Fr A G s.heap.size)) ([.long x0, .ref (A a2)] : List Value).toArray s 0 0 (Fr A G s.heap.size)) (F0 m 0 ls []) from fun hw => K _ _ hw
  intro H locs hw
  refine lv_lload_n hx hb dX5_digestFragments_0 rfl (lv_at hl 0 rfl) ?_
  refine lv_lstore_n (lv' := [(3, .long x0), (0, .long x0), (2, .ref (A a2))]) hx hb dX5_digestFragments_1 rfl hl (by decide) rfl (fun ls hl => ?_)
  refine lv_iconst (v := 0) hx hb dX5_digestFragments_2 (by decide) ?_
  refine lv_istore (lv' := [(5, .int 0), (3, .long x0), (0, .long x0), (2, .ref (A a2))]) hx hb dX5_digestFragments_3 hl (by decide) rfl (fun ls hl => ?_)
  exact J5 fuel x0 0 hm H locs hw ls (lv_sub hl [3, 1, 0] rfl)
set_option maxHeartbeats 4000000 in
set_option maxRecDepth 100000 in
theorem c_X5_digestEntries (l : Launch) {D : va_G} {cy : Nat → ClassId} {A : Nat → Nat} {G : Nat → Bool} {M : Mem} {sz : Nat} {a0 : Nat} {x1 : Int64} {a3 : Nat} (h0 : TT G 4 a0) (h3 : TT G 0 a3)  {z : Int64} (hm : m_X5_digestEntries a0 x1 a3 M = some z) : Met l yX5_digestEntries (wm yX5_digestEntries cX5_digestEntries 7 (some .long)) ({ frames := 4, cells := 0, slots := 0, locals := 92 } : Room) (va_Pc [.ref (A a0), .long x1, .ref (A a3)] (Pr D cy A G M sz)) (va_Ql (fun (r' : Int64) (u : Mem) => r' = z ∧ u = M) (Po D cy A G (Fr A G sz)) (Fr A G sz))  0 0 (Fr A G sz) := by
  refine ofB (Qc := fun sz => va_Ql (fun (r' : Int64) (u : Mem) => r' = z ∧ u = M) (Po D cy A G (Fr A G sz)) (Fr A G sz)) (by decide +kernel) (Nat.le_of_ble_eq_true rfl) ?_
  intro p e s m below meth c hx hb hr hts hown hlocks hml hmn hK hw ls hl
  have hl : lv_has ls 7 [(0, .ref (A a0)), (1, .long x1), (3, .ref (A a3))] := hl
  have J6 : ∀  (n : Nat) (v4 : Int64) (v6 : Int32), m_X5_digestEntries_L6 a0 x1 a3 M n v4 v6 = some z → ∀ (H : Heap) (locs : List Loc), WD D cy (Fr A G s.heap.size) A s.heap G M H locs → ∀ ls : Array Slot, lv_has ls 7 [(0, .ref (A a0)), (3, .ref (A a3)), (4, .long v4), (6, .int v6)] → W p l e (headSpec (wm yX5_digestEntries cX5_digestEntries 7 (some .long)) ({ frames := 4, cells := 0, slots := 0, locals := 92 } : Room)).room s m ([.ref (A a0), .long x1, .ref (A a3)] : List Value).toArray below meth c H locs 0 0 (MQ below (va_Ql (fun (r' : Int64) (u : Mem) => r' = z ∧ u = M) (Po D cy A G (Fr A G s.heap.size)) (Fr A G s.heap.size)) ([.ref (A a0), .long x1, .ref (A a3)] : List Value).toArray s 0 0 (Fr A G s.heap.size)) (F0 m 6 ls []) := by
    intro n
    induction n with
    | zero =>
      intro v4 v6 hm
      cases (show (none : Option Int64) = some z from hm)
    | succ n ih =>
      intro v4 v6 hm H locs hw ls hl
      have hm := (m_X5_digestEntries_L6_s a0 x1 a3 M n v4 v6).symm.trans hm
      refine lv_iload hx hb dX5_digestEntries_6 (lv_at hl 3 rfl) ?_
      refine lv_aload_n hx hb dX5_digestEntries_8 rfl (lv_at hl 1 rfl) ?_
      refine g0 hx hb hts hown hK hw h3 5 (by decide) (.int (gF M a3 5)) rfl k_fl_RX5_127 (fun _ h => h) dX5_digestEntries_9 ?_
      refine lv_icmp_ge (tgt := 73) hx hb dX5_digestEntries_12 (by decide) (fun hq1 => ?_) (fun hq1 => ?_)
      · have hm := (if_pos hq1).symm.trans hm
        refine lv_lload hx hb dX5_digestEntries_73 (lv_at hl 2 rfl) ?_
        cases hm
        exact eL hx hb hr hlocks hK hw dX5_digestEntries_75
      · have hm := (if_neg hq1).symm.trans hm
        refine lv_ldc2 hx hb hown (hts _ k_ct_RX5_222) dX5_digestEntries_15 ?_
        refine lv_lload hx hb dX5_digestEntries_18 (lv_at hl 2 rfl) ?_
        refine lv_lmul hx hb dX5_digestEntries_20 ?_
        refine lv_aload_n hx hb dX5_digestEntries_21 rfl (lv_at hl 1 rfl) ?_
        refine lv_iload hx hb dX5_digestEntries_22 (lv_at hl 3 rfl) ?_
        obtain ⟨z2, e3, hm⟩ := bd_some hm
        refine ki hw Fr_hi (rV hx hb hml hts hown hK hw (c_X0_payloadOf l h3 e3) h3 (by decide) rfl (mkV 1 hts k_ml_RX5_257 k_im_yX0_payloadOf k_se_yX0_payloadOf k_in_RX0 k_co_yX0_payloadOf hd_X0_payloadOf ⟨Nat.le_of_ble_eq_true rfl, Nat.le_of_ble_eq_true rfl⟩) rfl hl.1 rfl (Nat.le_of_ble_eq_true rfl) dX5_digestEntries_24 ⟨Nat.le_of_ble_eq_true rfl, Nat.le_of_ble_eq_true rfl⟩) (fun H locs hw => ?_)
        refine lv_i2l (v := z2.toInt64) hx hb dX5_digestEntries_27 rfl ?_
        refine lv_ladd hx hb dX5_digestEntries_28 ?_
        refine lv_lstore (lv' := [(4, .long ((31 * v4) + z2.toInt64)), (0, .ref (A a0)), (3, .ref (A a3)), (6, .int v6)]) hx hb dX5_digestEntries_29 hl (by decide) rfl (fun ls hl => ?_)
        refine lv_ldc2 hx hb hown (hts _ k_ct_RX5_222) dX5_digestEntries_31 ?_
        refine lv_lload hx hb dX5_digestEntries_34 (lv_at hl 0 rfl) ?_
        refine lv_lmul hx hb dX5_digestEntries_36 ?_
        refine lv_aload_n hx hb dX5_digestEntries_37 rfl (lv_at hl 2 rfl) ?_
        refine lv_iload hx hb dX5_digestEntries_38 (lv_at hl 3 rfl) ?_
        obtain ⟨z4, e5, hm⟩ := bd_some hm
        refine ki hw Fr_hi (rV hx hb hml hts hown hK hw (c_X0_countAcknowledgers l h3 e5) h3 (by decide) rfl (mkV 1 hts k_ml_RX5_190 k_im_yX0_countAcknowledgers k_se_yX0_countAcknowledgers k_in_RX0 k_co_yX0_countAcknowledgers hd_X0_countAcknowledgers ⟨Nat.le_of_ble_eq_true rfl, Nat.le_of_ble_eq_true rfl⟩) rfl hl.1 rfl (Nat.le_of_ble_eq_true rfl) dX5_digestEntries_40 ⟨Nat.le_of_ble_eq_true rfl, Nat.le_of_ble_eq_true rfl⟩) (fun H locs hw => ?_)
        refine lv_i2l (v := z4.toInt64) hx hb dX5_digestEntries_43 rfl ?_
        refine lv_ladd hx hb dX5_digestEntries_44 ?_
        refine lv_lstore (lv' := [(4, .long ((31 * ((31 * v4) + z2.toInt64)) + z4.toInt64)), (0, .ref (A a0)), (3, .ref (A a3)), (6, .int v6)]) hx hb dX5_digestEntries_45 hl (by decide) rfl (fun ls hl => ?_)
        refine lv_ldc2 hx hb hown (hts _ k_ct_RX5_222) dX5_digestEntries_47 ?_
        refine lv_lload hx hb dX5_digestEntries_50 (lv_at hl 0 rfl) ?_
        refine lv_lmul hx hb dX5_digestEntries_52 ?_
        refine lv_aload_n hx hb dX5_digestEntries_53 rfl (lv_at hl 1 rfl) ?_
        refine g4 hx hb hts hown hK hw h0 0 (by decide) (.ref (A 64)) rfl k_fl_RX5_12 (fun _ h => h) dX5_digestEntries_54 ?_
        have hp6 := ls_n h0
        refine lv_aload_n hx hb dX5_digestEntries_57 rfl (lv_at hl 2 rfl) ?_
        refine lv_iload hx hb dX5_digestEntries_58 (lv_at hl 3 rfl) ?_
        obtain ⟨z7, e8, hm⟩ := bd_some hm
        refine ki hw Fr_hi (rV hx hb hml hts hown hK hw (c_X3_holderMask l hp6 h3 e8) hp6 (by decide) rfl (mkV 2 hts k_ml_RX5_193 k_im_yX3_holderMask k_se_yX3_holderMask k_in_RX3 k_co_yX3_holderMask hd_X3_holderMask ⟨Nat.le_of_ble_eq_true rfl, Nat.le_of_ble_eq_true rfl⟩) rfl hl.1 rfl (Nat.le_of_ble_eq_true rfl) dX5_digestEntries_60 ⟨Nat.le_of_ble_eq_true rfl, Nat.le_of_ble_eq_true rfl⟩) (fun H locs hw => ?_)
        refine lv_i2l (v := z7.toInt64) hx hb dX5_digestEntries_63 rfl ?_
        refine lv_ladd hx hb dX5_digestEntries_64 ?_
        refine lv_lstore (lv' := [(4, .long ((31 * ((31 * ((31 * v4) + z2.toInt64)) + z4.toInt64)) + z7.toInt64)), (0, .ref (A a0)), (3, .ref (A a3)), (6, .int v6)]) hx hb dX5_digestEntries_65 hl (by decide) rfl (fun ls hl => ?_)
        refine lv_iinc (v := (v6 + 1)) (lv' := [(6, .int (v6 + 1)), (4, .long ((31 * ((31 * ((31 * v4) + z2.toInt64)) + z4.toInt64)) + z7.toInt64)), (0, .ref (A a0)), (3, .ref (A a3))]) hx hb dX5_digestEntries_67 hl (k := 3) rfl rfl (by decide) rfl (fun ls hl => ?_)
        refine lv_goto (tgt := 6) hx hb dX5_digestEntries_70 (by decide) ?_
        exact ih ((31 * ((31 * ((31 * v4) + z2.toInt64)) + z4.toInt64)) + z7.toInt64) (v6 + 1) hm H locs hw ls (lv_sub hl [2, 3, 1, 0] rfl)
  unfold m_X5_digestEntries at hm
  revert hw
  suffices K : ∀ (H : Heap) (locs : List Loc), WD D cy (Fr A G s.heap.size) A s.heap G M H locs → W p l e (headSpec (wm yX5_digestEntries cX5_digestEntries 7 (some .long)) ({ frames := 4, cells := 0, slots := 0, locals := 92 } : Room)).room s m ([.ref (A a0), .long x1, .ref (A a3)] : List Value).toArray below meth c H locs 0 0 (MQ below (va_Ql (fun (r' : Int64) (u : Mem) => r' = z ∧ u = M) (Po D cy A G (Fr A G s.heap.size)) (Fr A G s.heap.size)) ([.ref (A a0), .long x1, .ref (A a3)] : List Value).toArray s 0 0 (Fr A G s.heap.size)) (F0 m 0 ls []) from fun hw => K _ _ hw
  intro H locs hw
  refine lv_lload_n hx hb dX5_digestEntries_0 rfl (lv_at hl 1 rfl) ?_
  refine lv_lstore (lv' := [(4, .long x1), (0, .ref (A a0)), (1, .long x1), (3, .ref (A a3))]) hx hb dX5_digestEntries_1 hl (by decide) rfl (fun ls hl => ?_)
  refine lv_iconst (v := 0) hx hb dX5_digestEntries_3 (by decide) ?_
  refine lv_istore (lv' := [(6, .int 0), (4, .long x1), (0, .ref (A a0)), (1, .long x1), (3, .ref (A a3))]) hx hb dX5_digestEntries_4 hl (by decide) rfl (fun ls hl => ?_)
  exact J6 fuel x1 0 hm H locs hw ls (lv_sub hl [2, 4, 1, 0] rfl)
set_option maxHeartbeats 4000000 in
set_option maxRecDepth 100000 in
theorem c_X5_digestFences (l : Launch) {D : va_G} {cy : Nat → ClassId} {A : Nat → Nat} {G : Nat → Bool} {M : Mem} {sz : Nat} {a0 : Nat} {x1 : Int64} {a3 : Nat} (h0 : TT G 4 a0) (h3 : TT G 0 a3)  {z : Int64} (hm : m_X5_digestFences a0 x1 a3 M = some z) : Met l yX5_digestFences (wm yX5_digestFences cX5_digestFences 8 (some .long)) ({ frames := 2, cells := 0, slots := 0, locals := 42 } : Room) (va_Pc [.ref (A a0), .long x1, .ref (A a3)] (Pr D cy A G M sz)) (va_Ql (fun (r' : Int64) (u : Mem) => r' = z ∧ u = M) (Po D cy A G (Fr A G sz)) (Fr A G sz))  0 0 (Fr A G sz) := by
  refine ofB (Qc := fun sz => va_Ql (fun (r' : Int64) (u : Mem) => r' = z ∧ u = M) (Po D cy A G (Fr A G sz)) (Fr A G sz)) (by decide +kernel) (Nat.le_of_ble_eq_true rfl) ?_
  intro p e s m below meth c hx hb hr hts hown hlocks hml hmn hK hw ls hl
  have hl : lv_has ls 8 [(0, .ref (A a0)), (1, .long x1), (3, .ref (A a3))] := hl
  have J6 : ∀  (n : Nat) (v4 : Int64) (v6 : Int32), m_X5_digestFences_L6 a0 x1 a3 M n v4 v6 = some z → ∀ (H : Heap) (locs : List Loc), WD D cy (Fr A G s.heap.size) A s.heap G M H locs → ∀ ls : Array Slot, lv_has ls 8 [(0, .ref (A a0)), (3, .ref (A a3)), (4, .long v4), (6, .int v6)] → W p l e (headSpec (wm yX5_digestFences cX5_digestFences 8 (some .long)) ({ frames := 2, cells := 0, slots := 0, locals := 42 } : Room)).room s m ([.ref (A a0), .long x1, .ref (A a3)] : List Value).toArray below meth c H locs 0 0 (MQ below (va_Ql (fun (r' : Int64) (u : Mem) => r' = z ∧ u = M) (Po D cy A G (Fr A G s.heap.size)) (Fr A G s.heap.size)) ([.ref (A a0), .long x1, .ref (A a3)] : List Value).toArray s 0 0 (Fr A G s.heap.size)) (F0 m 6 ls []) := by
    intro n
    induction n with
    | zero =>
      intro v4 v6 hm
      cases (show (none : Option Int64) = some z from hm)
    | succ n ih =>
      intro v4 v6 hm H locs hw ls hl
      have hm := (m_X5_digestFences_L6_s a0 x1 a3 M n v4 v6).symm.trans hm
      refine lv_iload hx hb dX5_digestFences_6 (lv_at hl 3 rfl) ?_
      refine lv_aload_n hx hb dX5_digestFences_8 rfl (lv_at hl 0 rfl) ?_
      refine g4 hx hb hts hown hK hw h0 0 (by decide) (.ref (A 64)) rfl k_fl_RX5_12 (fun _ h => h) dX5_digestFences_9 ?_
      have hp1 := ls_n h0
      refine g2 hx hb hts hown hK hw hp1 0 (by decide) (.int (gF M 64 0)) rfl k_fl_RX5_23 (fun _ h => h) dX5_digestFences_12 ?_
      refine lv_icmp_ge (tgt := 67) hx hb dX5_digestFences_15 (by decide) (fun hq2 => ?_) (fun hq2 => ?_)
      · have hm := (if_pos hq2).symm.trans hm
        refine lv_lload hx hb dX5_digestFences_67 (lv_at hl 2 rfl) ?_
        cases hm
        exact eL hx hb hr hlocks hK hw dX5_digestFences_69
      · have hm := (if_neg hq2).symm.trans hm
        refine lv_aload_n hx hb dX5_digestFences_18 rfl (lv_at hl 0 rfl) ?_
        refine g4 hx hb hts hown hK hw h0 0 (by decide) (.ref (A 64)) rfl k_fl_RX5_12 (fun _ h => h) dX5_digestFences_19 ?_
        have hp3 := ls_n h0
        refine lv_iload hx hb dX5_digestFences_22 (lv_at hl 3 rfl) ?_
        obtain ⟨z4, e5, hm⟩ := bd_some hm
        refine kq hw Fr_hi (rV hx hb hml hts hown hK hw (c_X3_node l hp3 e5) hp3 (by decide) rfl (mkV 1 hts k_ml_RX5_224 k_im_yX3_node k_se_yX3_node k_in_RX3 k_co_yX3_node hd_X3_node ⟨Nat.le_of_ble_eq_true rfl, Nat.le_of_ble_eq_true rfl⟩) rfl hl.1 rfl (Nat.le_of_ble_eq_true rfl) dX5_digestFences_24 ⟨Nat.le_of_ble_eq_true rfl, Nat.le_of_ble_eq_true rfl⟩) (fun hr6 H locs hw => ?_) (fun q7 hr6 H locs hw => ?_)
        · have hm := (on_none hr6).symm.trans hm
          refine lv_astoreN (lv' := [(7, .null), (0, .ref (A a0)), (3, .ref (A a3)), (4, .long v4), (6, .int v6)]) hx hb dX5_digestFences_27 hl (by decide) rfl (fun ls hl => ?_)
          refine lv_ldc2 hx hb hown (hts _ k_ct_RX5_222) dX5_digestFences_29 ?_
          refine lv_lload hx hb dX5_digestFences_32 (lv_at hl 3 rfl) ?_
          refine lv_lmul hx hb dX5_digestFences_34 ?_
          refine lv_aloadN hx hb dX5_digestFences_35 (lv_at hl 0 rfl) ?_
          refine lv_ifnullN (tgt := 56) hx hb dX5_digestFences_37 (by decide) ?_
          refine lv_iconst (v := 0) hx hb dX5_digestFences_56 (by decide) ?_
          refine lv_i2l (v := (0 : Int32).toInt64) hx hb dX5_digestFences_57 rfl ?_
          refine lv_ladd hx hb dX5_digestFences_58 ?_
          refine lv_lstore (lv' := [(4, .long ((31 * v4) + (0 : Int32).toInt64)), (7, .null), (0, .ref (A a0)), (3, .ref (A a3)), (6, .int v6)]) hx hb dX5_digestFences_59 hl (by decide) rfl (fun ls hl => ?_)
          refine lv_iinc (v := (v6 + 1)) (lv' := [(6, .int (v6 + 1)), (4, .long ((31 * v4) + (0 : Int32).toInt64)), (7, .null), (0, .ref (A a0)), (3, .ref (A a3))]) hx hb dX5_digestFences_61 hl (k := 4) rfl rfl (by decide) rfl (fun ls hl => ?_)
          refine lv_goto (tgt := 6) hx hb dX5_digestFences_64 (by decide) ?_
          exact ih ((31 * v4) + (0 : Int32).toInt64) (v6 + 1) hm H locs hw ls (lv_sub hl [3, 4, 1, 0] rfl)
        · have hm := (on_some hr6).symm.trans hm
          have hp8 := t_X3_node hp3 (hr6 ▸ e5)
          refine lv_astore (lv' := [(7, .ref (A q7)), (0, .ref (A a0)), (3, .ref (A a3)), (4, .long v4), (6, .int v6)]) hx hb dX5_digestFences_27 hl (by decide) rfl (fun ls hl => ?_)
          refine lv_ldc2 hx hb hown (hts _ k_ct_RX5_222) dX5_digestFences_29 ?_
          refine lv_lload hx hb dX5_digestFences_32 (lv_at hl 3 rfl) ?_
          refine lv_lmul hx hb dX5_digestFences_34 ?_
          refine lv_aload hx hb dX5_digestFences_35 (lv_at hl 0 rfl) ?_
          refine lv_ifnull hx hb dX5_digestFences_37 ?_
          refine lv_aload hx hb dX5_digestFences_40 (lv_at hl 0 rfl) ?_
          refine lv_aload_n hx hb dX5_digestFences_42 rfl (lv_at hl 2 rfl) ?_
          refine g0 hx hb hts hown hK hw h3 0 (by decide) (.int (gF M a3 0)) rfl k_fl_RX5_258 (fun _ h => h) dX5_digestFences_43 ?_
          obtain ⟨z9, e10, hm⟩ := bd_some hm
          refine ki hw Fr_hi (rV hx hb hml hts hown hK hw (c_X1_isFencedFor l hp8 e10) hp8 (by decide) rfl (mkV 1 hts k_ml_RX5_84 k_im_yX1_isFencedFor k_se_yX1_isFencedFor k_in_RX1 k_co_yX1_isFencedFor hd_X1_isFencedFor ⟨Nat.le_of_ble_eq_true rfl, Nat.le_of_ble_eq_true rfl⟩) rfl hl.1 rfl (Nat.le_of_ble_eq_true rfl) dX5_digestFences_46 ⟨Nat.le_of_ble_eq_true rfl, Nat.le_of_ble_eq_true rfl⟩) (fun H locs hw => ?_)
          refine lv_if_eq (tgt := 56) hx hb dX5_digestFences_49 (by decide) (fun hq11 => ?_) (fun hq11 => ?_)
          · have hm := (if_pos hq11).symm.trans hm
            refine lv_iconst (v := 0) hx hb dX5_digestFences_56 (by decide) ?_
            refine lv_i2l (v := (0 : Int32).toInt64) hx hb dX5_digestFences_57 rfl ?_
            refine lv_ladd hx hb dX5_digestFences_58 ?_
            refine lv_lstore (lv' := [(4, .long ((31 * v4) + (0 : Int32).toInt64)), (7, .ref (A q7)), (0, .ref (A a0)), (3, .ref (A a3)), (6, .int v6)]) hx hb dX5_digestFences_59 hl (by decide) rfl (fun ls hl => ?_)
            refine lv_iinc (v := (v6 + 1)) (lv' := [(6, .int (v6 + 1)), (4, .long ((31 * v4) + (0 : Int32).toInt64)), (7, .ref (A q7)), (0, .ref (A a0)), (3, .ref (A a3))]) hx hb dX5_digestFences_61 hl (k := 4) rfl rfl (by decide) rfl (fun ls hl => ?_)
            refine lv_goto (tgt := 6) hx hb dX5_digestFences_64 (by decide) ?_
            exact ih ((31 * v4) + (0 : Int32).toInt64) (v6 + 1) hm H locs hw ls (lv_sub hl [3, 4, 1, 0] rfl)
          · have hm := (if_neg hq11).symm.trans hm
            refine lv_iconst (v := 1) hx hb dX5_digestFences_52 (by decide) ?_
            refine lv_goto (tgt := 57) hx hb dX5_digestFences_53 (by decide) ?_
            refine lv_i2l (v := (1 : Int32).toInt64) hx hb dX5_digestFences_57 rfl ?_
            refine lv_ladd hx hb dX5_digestFences_58 ?_
            refine lv_lstore (lv' := [(4, .long ((31 * v4) + (1 : Int32).toInt64)), (7, .ref (A q7)), (0, .ref (A a0)), (3, .ref (A a3)), (6, .int v6)]) hx hb dX5_digestFences_59 hl (by decide) rfl (fun ls hl => ?_)
            refine lv_iinc (v := (v6 + 1)) (lv' := [(6, .int (v6 + 1)), (4, .long ((31 * v4) + (1 : Int32).toInt64)), (7, .ref (A q7)), (0, .ref (A a0)), (3, .ref (A a3))]) hx hb dX5_digestFences_61 hl (k := 4) rfl rfl (by decide) rfl (fun ls hl => ?_)
            refine lv_goto (tgt := 6) hx hb dX5_digestFences_64 (by decide) ?_
            exact ih ((31 * v4) + (1 : Int32).toInt64) (v6 + 1) hm H locs hw ls (lv_sub hl [3, 4, 1, 0] rfl)
  unfold m_X5_digestFences at hm
  revert hw
  suffices K : ∀ (H : Heap) (locs : List Loc), WD D cy (Fr A G s.heap.size) A s.heap G M H locs → W p l e (headSpec (wm yX5_digestFences cX5_digestFences 8 (some .long)) ({ frames := 2, cells := 0, slots := 0, locals := 42 } : Room)).room s m ([.ref (A a0), .long x1, .ref (A a3)] : List Value).toArray below meth c H locs 0 0 (MQ below (va_Ql (fun (r' : Int64) (u : Mem) => r' = z ∧ u = M) (Po D cy A G (Fr A G s.heap.size)) (Fr A G s.heap.size)) ([.ref (A a0), .long x1, .ref (A a3)] : List Value).toArray s 0 0 (Fr A G s.heap.size)) (F0 m 0 ls []) from fun hw => K _ _ hw
  intro H locs hw
  refine lv_lload_n hx hb dX5_digestFences_0 rfl (lv_at hl 1 rfl) ?_
  refine lv_lstore (lv' := [(4, .long x1), (0, .ref (A a0)), (1, .long x1), (3, .ref (A a3))]) hx hb dX5_digestFences_1 hl (by decide) rfl (fun ls hl => ?_)
  refine lv_iconst (v := 0) hx hb dX5_digestFences_3 (by decide) ?_
  refine lv_istore (lv' := [(6, .int 0), (4, .long x1), (0, .ref (A a0)), (1, .long x1), (3, .ref (A a3))]) hx hb dX5_digestFences_4 hl (by decide) rfl (fun ls hl => ?_)
  exact J6 fuel x1 0 hm H locs hw ls (lv_sub hl [2, 4, 1, 0] rfl)
set_option maxHeartbeats 4000000 in
set_option maxRecDepth 100000 in
theorem c_X5_digestLedger (l : Launch) {D : va_G} {cy : Nat → ClassId} {A : Nat → Nat} {G : Nat → Bool} {M : Mem} {sz : Nat} {a0 : Nat} {x1 : Int64} {a3 : Nat} (h0 : TT G 4 a0) (h3 : TT G 0 a3)  {z : Int64} (hm : m_X5_digestLedger a0 x1 a3 M = some z) : Met l yX5_digestLedger (wm yX5_digestLedger cX5_digestLedger 6 (some .long)) ({ frames := 5, cells := 0, slots := 0, locals := 118 } : Room) (va_Pc [.ref (A a0), .long x1, .ref (A a3)] (Pr D cy A G M sz)) (va_Ql (fun (r' : Int64) (u : Mem) => r' = z ∧ u = M) (Po D cy A G (Fr A G sz)) (Fr A G sz))  0 0 (Fr A G sz) := by
  refine ofB (Qc := fun sz => va_Ql (fun (r' : Int64) (u : Mem) => r' = z ∧ u = M) (Po D cy A G (Fr A G sz)) (Fr A G sz)) (by decide +kernel) (Nat.le_of_ble_eq_true rfl) ?_
  intro p e s m below meth c hx hb hr hts hown hlocks hml hmn hK hw ls hl
  have hl : lv_has ls 6 [(0, .ref (A a0)), (1, .long x1), (3, .ref (A a3))] := hl
  unfold m_X5_digestLedger at hm
  revert hw
  suffices K : ∀ (H : Heap) (locs : List Loc), WD D cy (Fr A G s.heap.size) A s.heap G M H locs → W p l e (headSpec (wm yX5_digestLedger cX5_digestLedger 6 (some .long)) ({ frames := 5, cells := 0, slots := 0, locals := 118 } : Room)).room s m ([.ref (A a0), .long x1, .ref (A a3)] : List Value).toArray below meth c H locs 0 0 (MQ below (va_Ql (fun (r' : Int64) (u : Mem) => r' = z ∧ u = M) (Po D cy A G (Fr A G s.heap.size)) (Fr A G s.heap.size)) ([.ref (A a0), .long x1, .ref (A a3)] : List Value).toArray s 0 0 (Fr A G s.heap.size)) (F0 m 0 ls []) from fun hw => K _ _ hw
  intro H locs hw
  refine lv_aload_n hx hb dX5_digestLedger_0 rfl (lv_at hl 2 rfl) ?_
  refine lv_ifnonnull (tgt := 6) hx hb dX5_digestLedger_1 (by decide) ?_
  refine lv_ldc2 hx hb hown (hts _ k_ct_RX5_222) dX5_digestLedger_6 ?_
  refine lv_lload_n hx hb dX5_digestLedger_9 rfl (lv_at hl 1 rfl) ?_
  refine lv_lmul hx hb dX5_digestLedger_10 ?_
  refine lv_aload_n hx hb dX5_digestLedger_11 rfl (lv_at hl 2 rfl) ?_
  refine g0 hx hb hts hown hK hw h3 1 (by decide) (.int (gF M a3 1)) rfl k_fl_RX5_136 (fun _ h => h) dX5_digestLedger_12 ?_
  refine lv_i2l (v := (gF M a3 1).toInt64) hx hb dX5_digestLedger_15 rfl ?_
  refine lv_ladd hx hb dX5_digestLedger_16 ?_
  refine lv_lstore (lv' := [(4, .long ((31 * x1) + (gF M a3 1).toInt64)), (0, .ref (A a0)), (1, .long x1), (3, .ref (A a3))]) hx hb dX5_digestLedger_17 hl (by decide) rfl (fun ls hl => ?_)
  refine lv_ldc2 hx hb hown (hts _ k_ct_RX5_222) dX5_digestLedger_19 ?_
  refine lv_lload hx hb dX5_digestLedger_22 (lv_at hl 0 rfl) ?_
  refine lv_lmul hx hb dX5_digestLedger_24 ?_
  refine lv_aload_n hx hb dX5_digestLedger_25 rfl (lv_at hl 3 rfl) ?_
  refine g0 hx hb hts hown hK hw h3 2 (by decide) (.int (gF M a3 2)) rfl k_fl_RX5_242 (fun _ h => h) dX5_digestLedger_26 ?_
  refine lv_i2l (v := (gF M a3 2).toInt64) hx hb dX5_digestLedger_29 rfl ?_
  refine lv_ladd hx hb dX5_digestLedger_30 ?_
  refine lv_lstore (lv' := [(4, .long ((31 * ((31 * x1) + (gF M a3 1).toInt64)) + (gF M a3 2).toInt64)), (0, .ref (A a0)), (1, .long x1), (3, .ref (A a3))]) hx hb dX5_digestLedger_31 hl (by decide) rfl (fun ls hl => ?_)
  refine lv_ldc2 hx hb hown (hts _ k_ct_RX5_222) dX5_digestLedger_33 ?_
  refine lv_lload hx hb dX5_digestLedger_36 (lv_at hl 0 rfl) ?_
  refine lv_lmul hx hb dX5_digestLedger_38 ?_
  refine lv_aload_n hx hb dX5_digestLedger_39 rfl (lv_at hl 3 rfl) ?_
  refine g0 hx hb hts hown hK hw h3 3 (by decide) (.int (gF M a3 3)) rfl k_fl_RX5_245 (fun _ h => h) dX5_digestLedger_40 ?_
  refine lv_i2l (v := (gF M a3 3).toInt64) hx hb dX5_digestLedger_43 rfl ?_
  refine lv_ladd hx hb dX5_digestLedger_44 ?_
  refine lv_lstore (lv' := [(4, .long ((31 * ((31 * ((31 * x1) + (gF M a3 1).toInt64)) + (gF M a3 2).toInt64)) + (gF M a3 3).toInt64)), (0, .ref (A a0)), (1, .long x1), (3, .ref (A a3))]) hx hb dX5_digestLedger_45 hl (by decide) rfl (fun ls hl => ?_)
  refine lv_ldc2 hx hb hown (hts _ k_ct_RX5_222) dX5_digestLedger_47 ?_
  refine lv_lload hx hb dX5_digestLedger_50 (lv_at hl 0 rfl) ?_
  refine lv_lmul hx hb dX5_digestLedger_52 ?_
  refine lv_aload_n hx hb dX5_digestLedger_53 rfl (lv_at hl 3 rfl) ?_
  refine g0 hx hb hts hown hK hw h3 4 (by decide) (.int (gF M a3 4)) rfl k_fl_RX5_120 (fun _ h => h) dX5_digestLedger_54 ?_
  refine lv_i2l (v := (gF M a3 4).toInt64) hx hb dX5_digestLedger_57 rfl ?_
  refine lv_ladd hx hb dX5_digestLedger_58 ?_
  refine lv_lstore (lv' := [(4, .long ((31 * ((31 * ((31 * ((31 * x1) + (gF M a3 1).toInt64)) + (gF M a3 2).toInt64)) + (gF M a3 3).toInt64)) + (gF M a3 4).toInt64)), (0, .ref (A a0)), (1, .long x1), (3, .ref (A a3))]) hx hb dX5_digestLedger_59 hl (by decide) rfl (fun ls hl => ?_)
  refine lv_ldc2 hx hb hown (hts _ k_ct_RX5_222) dX5_digestLedger_61 ?_
  refine lv_lload hx hb dX5_digestLedger_64 (lv_at hl 0 rfl) ?_
  refine lv_lmul hx hb dX5_digestLedger_66 ?_
  refine lv_aload_n hx hb dX5_digestLedger_67 rfl (lv_at hl 3 rfl) ?_
  obtain ⟨z1, e2, hm⟩ := bd_some hm
  refine ki hw Fr_hi (rV hx hb hml hts hown hK hw (c_X0_lastToRead l h3 e2) h3 (by decide) rfl (mkV 0 hts k_ml_RX5_173 k_im_yX0_lastToRead k_se_yX0_lastToRead k_in_RX0 k_co_yX0_lastToRead hd_X0_lastToRead ⟨Nat.le_of_ble_eq_true rfl, Nat.le_of_ble_eq_true rfl⟩) rfl hl.1 rfl (Nat.le_of_ble_eq_true rfl) dX5_digestLedger_68 ⟨Nat.le_of_ble_eq_true rfl, Nat.le_of_ble_eq_true rfl⟩) (fun H locs hw => ?_)
  refine lv_i2l (v := z1.toInt64) hx hb dX5_digestLedger_71 rfl ?_
  refine lv_ladd hx hb dX5_digestLedger_72 ?_
  refine lv_lstore (lv' := [(4, .long ((31 * ((31 * ((31 * ((31 * ((31 * x1) + (gF M a3 1).toInt64)) + (gF M a3 2).toInt64)) + (gF M a3 3).toInt64)) + (gF M a3 4).toInt64)) + z1.toInt64)), (0, .ref (A a0)), (1, .long x1), (3, .ref (A a3))]) hx hb dX5_digestLedger_73 hl (by decide) rfl (fun ls hl => ?_)
  refine lv_ldc2 hx hb hown (hts _ k_ct_RX5_222) dX5_digestLedger_75 ?_
  refine lv_lload hx hb dX5_digestLedger_78 (lv_at hl 0 rfl) ?_
  refine lv_lmul hx hb dX5_digestLedger_80 ?_
  refine lv_aload_n hx hb dX5_digestLedger_81 rfl (lv_at hl 3 rfl) ?_
  refine g0 hx hb hts hown hK hw h3 5 (by decide) (.int (gF M a3 5)) rfl k_fl_RX5_127 (fun _ h => h) dX5_digestLedger_82 ?_
  refine lv_i2l (v := (gF M a3 5).toInt64) hx hb dX5_digestLedger_85 rfl ?_
  refine lv_ladd hx hb dX5_digestLedger_86 ?_
  refine lv_lstore (lv' := [(4, .long ((31 * ((31 * ((31 * ((31 * ((31 * ((31 * x1) + (gF M a3 1).toInt64)) + (gF M a3 2).toInt64)) + (gF M a3 3).toInt64)) + (gF M a3 4).toInt64)) + z1.toInt64)) + (gF M a3 5).toInt64)), (0, .ref (A a0)), (1, .long x1), (3, .ref (A a3))]) hx hb dX5_digestLedger_87 hl (by decide) rfl (fun ls hl => ?_)
  refine lv_ldc2 hx hb hown (hts _ k_ct_RX5_222) dX5_digestLedger_89 ?_
  refine lv_lload hx hb dX5_digestLedger_92 (lv_at hl 0 rfl) ?_
  refine lv_lmul hx hb dX5_digestLedger_94 ?_
  refine lv_aload_n hx hb dX5_digestLedger_95 rfl (lv_at hl 1 rfl) ?_
  refine g4 hx hb hts hown hK hw h0 0 (by decide) (.ref (A 64)) rfl k_fl_RX5_12 (fun _ h => h) dX5_digestLedger_96 ?_
  have hp3 := ls_n h0
  refine lv_aload_n hx hb dX5_digestLedger_99 rfl (lv_at hl 3 rfl) ?_
  obtain ⟨z4, e5, hm⟩ := bd_some hm
  refine ki hw Fr_hi (rV hx hb hml hts hown hK hw (c_X3_countUnderReplicated l hp3 h3 e5) hp3 (by decide) rfl (mkV 1 hts k_ml_RX5_209 k_im_yX3_countUnderReplicated k_se_yX3_countUnderReplicated k_in_RX3 k_co_yX3_countUnderReplicated hd_X3_countUnderReplicated ⟨Nat.le_of_ble_eq_true rfl, Nat.le_of_ble_eq_true rfl⟩) rfl hl.1 rfl (Nat.le_of_ble_eq_true rfl) dX5_digestLedger_100 ⟨Nat.le_of_ble_eq_true rfl, Nat.le_of_ble_eq_true rfl⟩) (fun H locs hw => ?_)
  refine lv_i2l (v := z4.toInt64) hx hb dX5_digestLedger_103 rfl ?_
  refine lv_ladd hx hb dX5_digestLedger_104 ?_
  refine lv_lstore (lv' := [(4, .long ((31 * ((31 * ((31 * ((31 * ((31 * ((31 * ((31 * x1) + (gF M a3 1).toInt64)) + (gF M a3 2).toInt64)) + (gF M a3 3).toInt64)) + (gF M a3 4).toInt64)) + z1.toInt64)) + (gF M a3 5).toInt64)) + z4.toInt64)), (0, .ref (A a0)), (1, .long x1), (3, .ref (A a3))]) hx hb dX5_digestLedger_105 hl (by decide) rfl (fun ls hl => ?_)
  refine lv_ldc2 hx hb hown (hts _ k_ct_RX5_222) dX5_digestLedger_107 ?_
  refine lv_lload hx hb dX5_digestLedger_110 (lv_at hl 0 rfl) ?_
  refine lv_lmul hx hb dX5_digestLedger_112 ?_
  refine lv_aload_n hx hb dX5_digestLedger_113 rfl (lv_at hl 3 rfl) ?_
  refine g0 hx hb hts hown hK hw h3 7 (by decide) (.int (gF M a3 7)) rfl k_fl_RX5_196 (fun _ h => h) dX5_digestLedger_114 ?_
  refine lv_i2l (v := (gF M a3 7).toInt64) hx hb dX5_digestLedger_117 rfl ?_
  refine lv_ladd hx hb dX5_digestLedger_118 ?_
  refine lv_aload_n hx hb dX5_digestLedger_119 rfl (lv_at hl 3 rfl) ?_
  obtain ⟨z6, e7, hm⟩ := bd_some hm
  refine kl hw Fr_hi (rS hx hb hml hts hown hK hw (c_X5_digestFragments l h3 e7) (mkS 2 hts k_ml_RX5_248 k_st_yX5_digestFragments k_in_RX5 k_co_yX5_digestFragments hd_X5_digestFragments ⟨Nat.le_of_ble_eq_true rfl, Nat.le_of_ble_eq_true rfl⟩) rfl hl.1 rfl (Nat.le_of_ble_eq_true rfl) dX5_digestLedger_120 ⟨Nat.le_of_ble_eq_true rfl, Nat.le_of_ble_eq_true rfl⟩) (fun H locs hw => ?_)
  refine lv_lstore (lv' := [(4, .long z6), (0, .ref (A a0)), (1, .long x1), (3, .ref (A a3))]) hx hb dX5_digestLedger_123 hl (by decide) rfl (fun ls hl => ?_)
  refine lv_aload_n hx hb dX5_digestLedger_125 rfl (lv_at hl 1 rfl) ?_
  refine lv_lload hx hb dX5_digestLedger_126 (lv_at hl 0 rfl) ?_
  refine lv_aload_n hx hb dX5_digestLedger_128 rfl (lv_at hl 3 rfl) ?_
  obtain ⟨z8, e9, hm⟩ := bd_some hm
  refine kl hw Fr_hi (rV hx hb hml hts hown hK hw (c_X5_digestEntries l h0 h3 e9) h0 (by decide) rfl (mkV 2 hts k_ml_RX5_251 k_im_yX5_digestEntries k_se_yX5_digestEntries k_in_RX5 k_co_yX5_digestEntries hd_X5_digestEntries ⟨Nat.le_of_ble_eq_true rfl, Nat.le_of_ble_eq_true rfl⟩) rfl hl.1 rfl (Nat.le_of_ble_eq_true rfl) dX5_digestLedger_129 ⟨Nat.le_of_ble_eq_true rfl, Nat.le_of_ble_eq_true rfl⟩) (fun H locs hw => ?_)
  refine lv_lstore (lv' := [(4, .long z8), (0, .ref (A a0)), (1, .long x1), (3, .ref (A a3))]) hx hb dX5_digestLedger_132 hl (by decide) rfl (fun ls hl => ?_)
  refine lv_aload_n hx hb dX5_digestLedger_134 rfl (lv_at hl 1 rfl) ?_
  refine lv_lload hx hb dX5_digestLedger_135 (lv_at hl 0 rfl) ?_
  refine lv_aload_n hx hb dX5_digestLedger_137 rfl (lv_at hl 3 rfl) ?_
  obtain ⟨z10, e11, hm⟩ := bd_some hm
  refine kl hw Fr_hi (rV hx hb hml hts hown hK hw (c_X5_digestFences l h0 h3 e11) h0 (by decide) rfl (mkV 2 hts k_ml_RX5_254 k_im_yX5_digestFences k_se_yX5_digestFences k_in_RX5 k_co_yX5_digestFences hd_X5_digestFences ⟨Nat.le_of_ble_eq_true rfl, Nat.le_of_ble_eq_true rfl⟩) rfl hl.1 rfl (Nat.le_of_ble_eq_true rfl) dX5_digestLedger_138 ⟨Nat.le_of_ble_eq_true rfl, Nat.le_of_ble_eq_true rfl⟩) (fun H locs hw => ?_)
  cases hm
  exact eL hx hb hr hlocks hK hw dX5_digestLedger_141
set_option maxHeartbeats 4000000 in
set_option maxRecDepth 100000 in
theorem c_X5_digestLedger_N (l : Launch) {D : va_G} {cy : Nat → ClassId} {A : Nat → Nat} {G : Nat → Bool} {M : Mem} {sz : Nat} {a0 : Nat} {x1 : Int64} (h0 : TT G 4 a0)  {z : Int64} (hm : m_X5_digestLedger_N a0 x1 M = some z) : Met l yX5_digestLedger (wm yX5_digestLedger cX5_digestLedger 6 (some .long)) ({ frames := 5, cells := 0, slots := 0, locals := 118 } : Room) (va_Pc [.ref (A a0), .long x1, .null] (Pr D cy A G M sz)) (va_Ql (fun (r' : Int64) (u : Mem) => r' = z ∧ u = M) (Po D cy A G (Fr A G sz)) (Fr A G sz))  0 0 (Fr A G sz) := by
  refine ofB (Qc := fun sz => va_Ql (fun (r' : Int64) (u : Mem) => r' = z ∧ u = M) (Po D cy A G (Fr A G sz)) (Fr A G sz)) (by decide +kernel) (Nat.le_of_ble_eq_true rfl) ?_
  intro p e s m below meth c hx hb hr hts hown hlocks hml hmn hK hw ls hl
  have hl : lv_has ls 6 [(0, .ref (A a0)), (1, .long x1), (3, .null)] := hl
  unfold m_X5_digestLedger_N at hm
  revert hw
  suffices K : ∀ (H : Heap) (locs : List Loc), WD D cy (Fr A G s.heap.size) A s.heap G M H locs → W p l e (headSpec (wm yX5_digestLedger cX5_digestLedger 6 (some .long)) ({ frames := 5, cells := 0, slots := 0, locals := 118 } : Room)).room s m ([.ref (A a0), .long x1, .null] : List Value).toArray below meth c H locs 0 0 (MQ below (va_Ql (fun (r' : Int64) (u : Mem) => r' = z ∧ u = M) (Po D cy A G (Fr A G s.heap.size)) (Fr A G s.heap.size)) ([.ref (A a0), .long x1, .null] : List Value).toArray s 0 0 (Fr A G s.heap.size)) (F0 m 0 ls []) from fun hw => K _ _ hw
  intro H locs hw
  refine lv_aload_nN hx hb dX5_digestLedger_0 rfl (lv_at hl 2 rfl) ?_
  refine lv_ifnonnullN hx hb dX5_digestLedger_1 ?_
  refine lv_lload_n hx hb dX5_digestLedger_4 rfl (lv_at hl 1 rfl) ?_
  cases hm
  exact eL hx hb hr hlocks hK hw dX5_digestLedger_5
set_option maxHeartbeats 4000000 in
set_option maxRecDepth 100000 in
theorem c_X5_digest (l : Launch) {D : va_G} {cy : Nat → ClassId} {A : Nat → Nat} {G : Nat → Bool} {M : Mem} {sz : Nat} {a0 : Nat} (h0 : TT G 4 a0)  {z : Int64} (hm : m_X5_digest a0 M = some z) : Met l yX5_digest (wm yX5_digest cX5_digest 4 (some .long)) ({ frames := 6, cells := 0, slots := 0, locals := 143 } : Room) (va_Pc [.ref (A a0)] (Pr D cy A G M sz)) (va_Ql (fun (r' : Int64) (u : Mem) => r' = z ∧ u = M) (Po D cy A G (Fr A G sz)) (Fr A G sz))  0 0 (Fr A G sz) := by
  refine ofB (Qc := fun sz => va_Ql (fun (r' : Int64) (u : Mem) => r' = z ∧ u = M) (Po D cy A G (Fr A G sz)) (Fr A G sz)) (by decide +kernel) (Nat.le_of_ble_eq_true rfl) ?_
  intro p e s m below meth c hx hb hr hts hown hlocks hml hmn hK hw ls hl
  have hl : lv_has ls 4 [(0, .ref (A a0))] := hl
  have J99 : ∀  (n : Nat) (v1 : Int64) (v3 : Int32), m_X5_digest_L99 a0 M n v1 v3 = some z → ∀ (H : Heap) (locs : List Loc), WD D cy (Fr A G s.heap.size) A s.heap G M H locs → ∀ ls : Array Slot, lv_has ls 4 [(0, .ref (A a0)), (1, .long v1), (3, .int v3)] → W p l e (headSpec (wm yX5_digest cX5_digest 4 (some .long)) ({ frames := 6, cells := 0, slots := 0, locals := 143 } : Room)).room s m ([.ref (A a0)] : List Value).toArray below meth c H locs 0 0 (MQ below (va_Ql (fun (r' : Int64) (u : Mem) => r' = z ∧ u = M) (Po D cy A G (Fr A G s.heap.size)) (Fr A G s.heap.size)) ([.ref (A a0)] : List Value).toArray s 0 0 (Fr A G s.heap.size)) (F0 m 99 ls []) := by
    intro n
    induction n with
    | zero =>
      intro v1 v3 hm
      cases (show (none : Option Int64) = some z from hm)
    | succ n ih =>
      intro v1 v3 hm H locs hw ls hl
      have hm := (m_X5_digest_L99_s a0 M n v1 v3).symm.trans hm
      refine lv_iload_n hx hb dX5_digest_99 rfl (lv_at hl 2 rfl) ?_
      refine lv_aload_n hx hb dX5_digest_100 rfl (lv_at hl 0 rfl) ?_
      refine g4 hx hb hts hown hK hw h0 0 (by decide) (.ref (A 64)) rfl k_fl_RX5_12 (fun _ h => h) dX5_digest_101 ?_
      have hp7 := ls_n h0
      refine g2 hx hb hts hown hK hw hp7 1 (by decide) (.int (gF M 64 1)) rfl k_fl_RX5_99 (fun _ h => h) dX5_digest_104 ?_
      refine lv_icmp_ge (tgt := 130) hx hb dX5_digest_107 (by decide) (fun hq8 => ?_) (fun hq8 => ?_)
      · have hm := (if_pos hq8).symm.trans hm
        refine lv_lload_n hx hb dX5_digest_130 rfl (lv_at hl 1 rfl) ?_
        cases hm
        exact eL hx hb hr hlocks hK hw dX5_digest_131
      · have hm := (if_neg hq8).symm.trans hm
        refine lv_aload_n hx hb dX5_digest_110 rfl (lv_at hl 0 rfl) ?_
        refine lv_lload_n hx hb dX5_digest_111 rfl (lv_at hl 1 rfl) ?_
        refine lv_aload_n hx hb dX5_digest_112 rfl (lv_at hl 0 rfl) ?_
        refine g4 hx hb hts hown hK hw h0 0 (by decide) (.ref (A 64)) rfl k_fl_RX5_12 (fun _ h => h) dX5_digest_113 ?_
        have hp9 := ls_n h0
        refine lv_iload_n hx hb dX5_digest_116 rfl (lv_at hl 2 rfl) ?_
        obtain ⟨z10, e11, hm⟩ := bd_some hm
        refine kq hw Fr_hi (rV hx hb hml hts hown hK hw (c_X3_ledger l hp9 e11) hp9 (by decide) rfl (mkV 1 hts k_ml_RX5_231 k_im_yX3_ledger k_se_yX3_ledger k_in_RX3 k_co_yX3_ledger hd_X3_ledger ⟨Nat.le_of_ble_eq_true rfl, Nat.le_of_ble_eq_true rfl⟩) rfl hl.1 rfl (Nat.le_of_ble_eq_true rfl) dX5_digest_117 ⟨Nat.le_of_ble_eq_true rfl, Nat.le_of_ble_eq_true rfl⟩) (fun hr12 H locs hw => ?_) (fun q13 hr12 H locs hw => ?_)
        · have hm := (on_none hr12).symm.trans hm
          obtain ⟨z15, e16, hm⟩ := bd_some hm
          refine kl hw Fr_hi (rV hx hb hml hts hown hK hw (c_X5_digestLedger_N l h0 e16) h0 (by decide) rfl (mkV 2 hts k_ml_RX5_234 k_im_yX5_digestLedger k_se_yX5_digestLedger k_in_RX5 k_co_yX5_digestLedger hd_X5_digestLedger ⟨Nat.le_of_ble_eq_true rfl, Nat.le_of_ble_eq_true rfl⟩) rfl hl.1 rfl (Nat.le_of_ble_eq_true rfl) dX5_digest_120 ⟨Nat.le_of_ble_eq_true rfl, Nat.le_of_ble_eq_true rfl⟩) (fun H locs hw => ?_)
          refine lv_lstore_n (lv' := [(1, .long z15), (0, .ref (A a0)), (3, .int v3)]) hx hb dX5_digest_123 rfl hl (by decide) rfl (fun ls hl => ?_)
          refine lv_iinc (v := (v3 + 1)) (lv' := [(3, .int (v3 + 1)), (1, .long z15), (0, .ref (A a0))]) hx hb dX5_digest_124 hl (k := 2) rfl rfl (by decide) rfl (fun ls hl => ?_)
          refine lv_goto (tgt := 99) hx hb dX5_digest_127 (by decide) ?_
          exact ih z15 (v3 + 1) hm H locs hw ls (lv_sub hl [2, 1, 0] rfl)
        · have hm := (on_some hr12).symm.trans hm
          have hp14 := t_X3_ledger hp9 (hr12 ▸ e11)
          obtain ⟨z17, e18, hm⟩ := bd_some hm
          refine kl hw Fr_hi (rV hx hb hml hts hown hK hw (c_X5_digestLedger l h0 hp14 e18) h0 (by decide) rfl (mkV 2 hts k_ml_RX5_234 k_im_yX5_digestLedger k_se_yX5_digestLedger k_in_RX5 k_co_yX5_digestLedger hd_X5_digestLedger ⟨Nat.le_of_ble_eq_true rfl, Nat.le_of_ble_eq_true rfl⟩) rfl hl.1 rfl (Nat.le_of_ble_eq_true rfl) dX5_digest_120 ⟨Nat.le_of_ble_eq_true rfl, Nat.le_of_ble_eq_true rfl⟩) (fun H locs hw => ?_)
          refine lv_lstore_n (lv' := [(1, .long z17), (0, .ref (A a0)), (3, .int v3)]) hx hb dX5_digest_123 rfl hl (by decide) rfl (fun ls hl => ?_)
          refine lv_iinc (v := (v3 + 1)) (lv' := [(3, .int (v3 + 1)), (1, .long z17), (0, .ref (A a0))]) hx hb dX5_digest_124 hl (k := 2) rfl rfl (by decide) rfl (fun ls hl => ?_)
          refine lv_goto (tgt := 99) hx hb dX5_digest_127 (by decide) ?_
          exact ih z17 (v3 + 1) hm H locs hw ls (lv_sub hl [2, 1, 0] rfl)
  have J51 : ∀  (n : Nat) (v1 : Int64) (v3 : Int32), m_X5_digest_L51 a0 M n v1 v3 = some z → ∀ (H : Heap) (locs : List Loc), WD D cy (Fr A G s.heap.size) A s.heap G M H locs → ∀ ls : Array Slot, lv_has ls 4 [(0, .ref (A a0)), (1, .long v1), (3, .int v3)] → W p l e (headSpec (wm yX5_digest cX5_digest 4 (some .long)) ({ frames := 6, cells := 0, slots := 0, locals := 143 } : Room)).room s m ([.ref (A a0)] : List Value).toArray below meth c H locs 0 0 (MQ below (va_Ql (fun (r' : Int64) (u : Mem) => r' = z ∧ u = M) (Po D cy A G (Fr A G s.heap.size)) (Fr A G s.heap.size)) ([.ref (A a0)] : List Value).toArray s 0 0 (Fr A G s.heap.size)) (F0 m 51 ls []) := by
    intro n
    induction n with
    | zero =>
      intro v1 v3 hm
      cases (show (none : Option Int64) = some z from hm)
    | succ n ih =>
      intro v1 v3 hm H locs hw ls hl
      have hm := (m_X5_digest_L51_s a0 M n v1 v3).symm.trans hm
      refine lv_iload_n hx hb dX5_digest_51 rfl (lv_at hl 2 rfl) ?_
      refine lv_aload_n hx hb dX5_digest_52 rfl (lv_at hl 0 rfl) ?_
      refine g4 hx hb hts hown hK hw h0 0 (by decide) (.ref (A 64)) rfl k_fl_RX5_12 (fun _ h => h) dX5_digest_53 ?_
      have hp4 := ls_n h0
      refine g2 hx hb hts hown hK hw hp4 0 (by decide) (.int (gF M 64 0)) rfl k_fl_RX5_23 (fun _ h => h) dX5_digest_56 ?_
      refine lv_icmp_ge (tgt := 82) hx hb dX5_digest_59 (by decide) (fun hq5 => ?_) (fun hq5 => ?_)
      · have hm := (if_pos hq5).symm.trans hm
        refine lv_ldc2 hx hb hown (hts _ k_ct_RX5_222) dX5_digest_82 ?_
        refine lv_lload_n hx hb dX5_digest_85 rfl (lv_at hl 1 rfl) ?_
        refine lv_lmul hx hb dX5_digest_86 ?_
        refine lv_aload_n hx hb dX5_digest_87 rfl (lv_at hl 0 rfl) ?_
        refine g4 hx hb hts hown hK hw h0 0 (by decide) (.ref (A 64)) rfl k_fl_RX5_12 (fun _ h => h) dX5_digest_88 ?_
        have hp6 := ls_n h0
        refine g2 hx hb hts hown hK hw hp6 1 (by decide) (.int (gF M 64 1)) rfl k_fl_RX5_99 (fun _ h => h) dX5_digest_91 ?_
        refine lv_i2l (v := (gF M 64 1).toInt64) hx hb dX5_digest_94 rfl ?_
        refine lv_ladd hx hb dX5_digest_95 ?_
        refine lv_lstore_n (lv' := [(1, .long ((31 * v1) + (gF M 64 1).toInt64)), (0, .ref (A a0)), (3, .int v3)]) hx hb dX5_digest_96 rfl hl (by decide) rfl (fun ls hl => ?_)
        refine lv_iconst (v := 0) hx hb dX5_digest_97 (by decide) ?_
        refine lv_istore_n (lv' := [(3, .int 0), (1, .long ((31 * v1) + (gF M 64 1).toInt64)), (0, .ref (A a0))]) hx hb dX5_digest_98 rfl hl (by decide) rfl (fun ls hl => ?_)
        exact J99 fuel ((31 * v1) + (gF M 64 1).toInt64) 0 hm H locs hw ls (lv_sub hl [2, 1, 0] rfl)
      · have hm := (if_neg hq5).symm.trans hm
        refine lv_aload_n hx hb dX5_digest_62 rfl (lv_at hl 0 rfl) ?_
        refine lv_lload_n hx hb dX5_digest_63 rfl (lv_at hl 1 rfl) ?_
        refine lv_aload_n hx hb dX5_digest_64 rfl (lv_at hl 0 rfl) ?_
        refine g4 hx hb hts hown hK hw h0 0 (by decide) (.ref (A 64)) rfl k_fl_RX5_12 (fun _ h => h) dX5_digest_65 ?_
        have hp19 := ls_n h0
        refine lv_iload_n hx hb dX5_digest_68 rfl (lv_at hl 2 rfl) ?_
        obtain ⟨z20, e21, hm⟩ := bd_some hm
        refine kq hw Fr_hi (rV hx hb hml hts hown hK hw (c_X3_node l hp19 e21) hp19 (by decide) rfl (mkV 1 hts k_ml_RX5_224 k_im_yX3_node k_se_yX3_node k_in_RX3 k_co_yX3_node hd_X3_node ⟨Nat.le_of_ble_eq_true rfl, Nat.le_of_ble_eq_true rfl⟩) rfl hl.1 rfl (Nat.le_of_ble_eq_true rfl) dX5_digest_69 ⟨Nat.le_of_ble_eq_true rfl, Nat.le_of_ble_eq_true rfl⟩) (fun hr22 H locs hw => ?_) (fun q23 hr22 H locs hw => ?_)
        · have hm := (on_none hr22).symm.trans hm
          obtain ⟨z25, e26, hm⟩ := bd_some hm
          refine kl hw Fr_hi (rV hx hb hml hts hown hK hw (c_X5_digestNode_N l h0 e26) h0 (by decide) rfl (mkV 2 hts k_ml_RX5_227 k_im_yX5_digestNode k_se_yX5_digestNode k_in_RX5 k_co_yX5_digestNode hd_X5_digestNode ⟨Nat.le_of_ble_eq_true rfl, Nat.le_of_ble_eq_true rfl⟩) rfl hl.1 rfl (Nat.le_of_ble_eq_true rfl) dX5_digest_72 ⟨Nat.le_of_ble_eq_true rfl, Nat.le_of_ble_eq_true rfl⟩) (fun H locs hw => ?_)
          refine lv_lstore_n (lv' := [(1, .long z25), (0, .ref (A a0)), (3, .int v3)]) hx hb dX5_digest_75 rfl hl (by decide) rfl (fun ls hl => ?_)
          refine lv_iinc (v := (v3 + 1)) (lv' := [(3, .int (v3 + 1)), (1, .long z25), (0, .ref (A a0))]) hx hb dX5_digest_76 hl (k := 2) rfl rfl (by decide) rfl (fun ls hl => ?_)
          refine lv_goto (tgt := 51) hx hb dX5_digest_79 (by decide) ?_
          exact ih z25 (v3 + 1) hm H locs hw ls (lv_sub hl [2, 1, 0] rfl)
        · have hm := (on_some hr22).symm.trans hm
          have hp24 := t_X3_node hp19 (hr22 ▸ e21)
          obtain ⟨z27, e28, hm⟩ := bd_some hm
          refine kl hw Fr_hi (rV hx hb hml hts hown hK hw (c_X5_digestNode l h0 hp24 e28) h0 (by decide) rfl (mkV 2 hts k_ml_RX5_227 k_im_yX5_digestNode k_se_yX5_digestNode k_in_RX5 k_co_yX5_digestNode hd_X5_digestNode ⟨Nat.le_of_ble_eq_true rfl, Nat.le_of_ble_eq_true rfl⟩) rfl hl.1 rfl (Nat.le_of_ble_eq_true rfl) dX5_digest_72 ⟨Nat.le_of_ble_eq_true rfl, Nat.le_of_ble_eq_true rfl⟩) (fun H locs hw => ?_)
          refine lv_lstore_n (lv' := [(1, .long z27), (0, .ref (A a0)), (3, .int v3)]) hx hb dX5_digest_75 rfl hl (by decide) rfl (fun ls hl => ?_)
          refine lv_iinc (v := (v3 + 1)) (lv' := [(3, .int (v3 + 1)), (1, .long z27), (0, .ref (A a0))]) hx hb dX5_digest_76 hl (k := 2) rfl rfl (by decide) rfl (fun ls hl => ?_)
          refine lv_goto (tgt := 51) hx hb dX5_digest_79 (by decide) ?_
          exact ih z27 (v3 + 1) hm H locs hw ls (lv_sub hl [2, 1, 0] rfl)
  unfold m_X5_digest at hm
  revert hw
  suffices K : ∀ (H : Heap) (locs : List Loc), WD D cy (Fr A G s.heap.size) A s.heap G M H locs → W p l e (headSpec (wm yX5_digest cX5_digest 4 (some .long)) ({ frames := 6, cells := 0, slots := 0, locals := 143 } : Room)).room s m ([.ref (A a0)] : List Value).toArray below meth c H locs 0 0 (MQ below (va_Ql (fun (r' : Int64) (u : Mem) => r' = z ∧ u = M) (Po D cy A G (Fr A G s.heap.size)) (Fr A G s.heap.size)) ([.ref (A a0)] : List Value).toArray s 0 0 (Fr A G s.heap.size)) (F0 m 0 ls []) from fun hw => K _ _ hw
  intro H locs hw
  refine lv_ldc2 hx hb hown (hts _ k_ct_RX5_220) dX5_digest_0 ?_
  refine lv_lstore_n (lv' := [(1, .long 12109), (0, .ref (A a0))]) hx hb dX5_digest_3 rfl hl (by decide) rfl (fun ls hl => ?_)
  refine lv_ldc2 hx hb hown (hts _ k_ct_RX5_222) dX5_digest_4 ?_
  refine lv_lload_n hx hb dX5_digest_7 rfl (lv_at hl 0 rfl) ?_
  refine lv_lmul hx hb dX5_digest_8 ?_
  refine lv_aload_n hx hb dX5_digest_9 rfl (lv_at hl 1 rfl) ?_
  refine g4 hx hb hts hown hK hw h0 1 (by decide) (.ref (A 1)) rfl k_fl_RX5_19 (fun _ h => h) dX5_digest_10 ?_
  have hp1 := ls_p h0
  refine g3 hx hb hts hown hK hw hp1 0 (by decide) (.int (gF M 1 0)) rfl k_fl_RX5_212 (fun _ h => h) dX5_digest_13 ?_
  refine lv_i2l (v := (gF M 1 0).toInt64) hx hb dX5_digest_16 rfl ?_
  refine lv_ladd hx hb dX5_digest_17 ?_
  refine lv_lstore_n (lv' := [(1, .long ((31 * 12109) + (gF M 1 0).toInt64)), (0, .ref (A a0))]) hx hb dX5_digest_18 rfl hl (by decide) rfl (fun ls hl => ?_)
  refine lv_ldc2 hx hb hown (hts _ k_ct_RX5_222) dX5_digest_19 ?_
  refine lv_lload_n hx hb dX5_digest_22 rfl (lv_at hl 0 rfl) ?_
  refine lv_lmul hx hb dX5_digest_23 ?_
  refine lv_aload_n hx hb dX5_digest_24 rfl (lv_at hl 1 rfl) ?_
  refine g4 hx hb hts hown hK hw h0 0 (by decide) (.ref (A 64)) rfl k_fl_RX5_12 (fun _ h => h) dX5_digest_25 ?_
  have hp2 := ls_n h0
  refine g2 hx hb hts hown hK hw hp2 2 (by decide) (.int (gF M 64 2)) rfl k_fl_RX5_87 (fun _ h => h) dX5_digest_28 ?_
  refine lv_i2l (v := (gF M 64 2).toInt64) hx hb dX5_digest_31 rfl ?_
  refine lv_ladd hx hb dX5_digest_32 ?_
  refine lv_lstore_n (lv' := [(1, .long ((31 * ((31 * 12109) + (gF M 1 0).toInt64)) + (gF M 64 2).toInt64)), (0, .ref (A a0))]) hx hb dX5_digest_33 rfl hl (by decide) rfl (fun ls hl => ?_)
  refine lv_ldc2 hx hb hown (hts _ k_ct_RX5_222) dX5_digest_34 ?_
  refine lv_lload_n hx hb dX5_digest_37 rfl (lv_at hl 0 rfl) ?_
  refine lv_lmul hx hb dX5_digest_38 ?_
  refine lv_aload_n hx hb dX5_digest_39 rfl (lv_at hl 1 rfl) ?_
  refine g4 hx hb hts hown hK hw h0 0 (by decide) (.ref (A 64)) rfl k_fl_RX5_12 (fun _ h => h) dX5_digest_40 ?_
  have hp3 := ls_n h0
  refine g2 hx hb hts hown hK hw hp3 0 (by decide) (.int (gF M 64 0)) rfl k_fl_RX5_23 (fun _ h => h) dX5_digest_43 ?_
  refine lv_i2l (v := (gF M 64 0).toInt64) hx hb dX5_digest_46 rfl ?_
  refine lv_ladd hx hb dX5_digest_47 ?_
  refine lv_lstore_n (lv' := [(1, .long ((31 * ((31 * ((31 * 12109) + (gF M 1 0).toInt64)) + (gF M 64 2).toInt64)) + (gF M 64 0).toInt64)), (0, .ref (A a0))]) hx hb dX5_digest_48 rfl hl (by decide) rfl (fun ls hl => ?_)
  refine lv_iconst (v := 0) hx hb dX5_digest_49 (by decide) ?_
  refine lv_istore_n (lv' := [(3, .int 0), (1, .long ((31 * ((31 * ((31 * 12109) + (gF M 1 0).toInt64)) + (gF M 64 2).toInt64)) + (gF M 64 0).toInt64)), (0, .ref (A a0))]) hx hb dX5_digest_50 rfl hl (by decide) rfl (fun ls hl => ?_)
  exact J51 fuel ((31 * ((31 * ((31 * 12109) + (gF M 1 0).toInt64)) + (gF M 64 2).toInt64)) + (gF M 64 0).toInt64) 0 hm H locs hw ls (lv_sub hl [2, 1, 0] rfl)
