set_option maxHeartbeats 4000000 in
set_option maxRecDepth 100000 in
theorem c_L_addNode (l : Launch) {D : va_G} {cy : Nat → ClassId} {A : Nat → Nat} {G : Nat → Bool} {M : Mem} {sz : Nat}  (hfl : l.stackTraces = false) {w : Int32 × (Nat → Bool) × Mem} (hm : m_L_addNode  G M = some w) : vx_Met l yL_addNode (wmW yL_addNode cL_addNode 3 (some .int) [(0, 8, 11, 13)]) ({ frames := 7, cells := 50, slots := 3520, locals := 192 } : Room) (va_Pc [.ref (A 0), .ref (A 6)] (PrN D cy A G M sz)) (WQ D cy A G (Fr A G sz) w) (Xx D cy A G (Fr A G sz) M (fun _ => False)) 50 3520 (Fr A G sz) := by
  refine ofXH (Qc := fun sz => WQ D cy A G (Fr A G sz) w) (XC := fun sz => Xx D cy A G (Fr A G sz) M (fun _ => False)) (by decide +kernel) (Nat.le_of_ble_eq_true rfl) ?_
  intro p e s m below meth c hx hb hr hts hown hlocks hml hex hK hR hT hN hw ls hl
  have hl : lv_has ls 3 [(0, .ref (A 0)), (1, .ref (A 6))] := hl
  unfold m_L_addNode at hm
  obtain ⟨z, e1, hm⟩ := Option.bind_eq_some_iff.mp hm
  refine lv_aload_n hx hb dL_addNode_0 rfl (lv_at hl 1 rfl) ?_
  refine lv_iconst (v := 0) hx hb dL_addNode_1 rfl ?_
  refine lv_aload_n hx hb dL_addNode_2 rfl (lv_at hl 0 rfl) ?_
  refine vx_calli (xV hx hb hml hts hown hK hR hT Fr_hi hw (c_X5_addNode l hfl (⟨rfl, sm_in (by omega)⟩ : TT G 4 0) e1) (⟨rfl, sm_in (by omega)⟩ : TT G 4 0) (by decide) rfl (mkV 0 hts k_ml_RL_7 k_im_yX5_addNode k_se_yX5_addNode k_in_RX5 k_co_yX5_addNode hd_X5_addNode ⟨Nat.le_of_ble_eq_true rfl, Nat.le_of_ble_eq_true rfl⟩) rfl hl.1 rfl (Nat.le_of_ble_eq_true rfl) dL_addNode_3 ⟨Nat.le_of_ble_eq_true rfl, Nat.le_of_ble_eq_true rfl⟩) hw.2.2 (fun q _ h => Fr_As hw Fr_hi q h) (Fr_As hw Fr_hi) (fun q _ h => Fr_As hw Fr_hi q h) (fun E ce q9 k t H1 locs1 ht _ hp hB _ _ hS hce hcv hcl => ?_) (fun r A1 t H1 locs1 ht _ hp hB _ _ hS => ?_)
  · have hw := wdX hw Fr_hi ht hB.2 hS
    obtain ⟨rfl, -⟩ := hB
    rw [onx_r hp] at hm
    by_cases h2 : k = 2
    · subst h2
      rw [if_pos rfl] at hm
      refine ct2 hts hown hR hex (by decide) (by decide) k_cl_RL_13 hce hcv hcl ?_
      refine lv_astore_n (lv' := [(2, .ref q9), (0, .ref (A 0)), (1, .ref (A 6))]) hx hb dL_addNode_11 rfl hl (by decide) rfl (fun ls hl => ?_)
      refine lv_iconst (v := 1) hx hb dL_addNode_12 rfl ?_
      exact eWI hx hb hr hlocks hw (Option.some.inj hm).symm (fun c h => ⟨rfl, h⟩) (Nat.le_of_ble_eq_true rfl) (Nat.le_of_ble_eq_true rfl) dL_addNode_13
    rw [if_neg h2] at hm
    cases hm
  · obtain ⟨G', M', hz, hAA⟩ := hp
    obtain ⟨r', G2, M2, hz2, hB⟩ := hB
    cases hz.symm.trans hz2
    rw [onx_l hz] at hm
    have hw := wdX hw Fr_hi ht hB hS
    rw [← (hAA 6 (sm_in (by omega))).1]
    refine lv_i2l hx hb dL_addNode_6 rfl ?_
    refine pL hx hb hK hw dL_addNode_7 (fun H locs hw => ?_)
    refine lv_goto (tgt := 14) hx hb dL_addNode_8 (by decide) ?_
    refine lv_iconst (v := 0) hx hb dL_addNode_14 rfl ?_
    exact eWI hx hb hr hlocks hw (Option.some.inj hm).symm (fun c hc => hAA c hc) (Nat.le_of_ble_eq_true rfl) (Nat.le_of_ble_eq_true rfl) dL_addNode_15
set_option maxHeartbeats 4000000 in
set_option maxRecDepth 100000 in
theorem c_L_crash (l : Launch) {D : va_G} {cy : Nat → ClassId} {A : Nat → Nat} {G : Nat → Bool} {M : Mem} {sz : Nat} {x1 : Int32} (hfl : l.stackTraces = false) {w : Int32 × (Nat → Bool) × Mem} (hm : m_L_crash x1 G M = some w) : vx_Met l yL_crash (wmW yL_crash cL_crash 4 (some .int) [(0, 9, 12, 19), (0, 9, 15, 13)]) ({ frames := 8, cells := 50, slots := 3520, locals := 195 } : Room) (va_Pc [.ref (A 0), .int x1, .ref (A 6)] (PrN D cy A G M sz)) (WQ D cy A G (Fr A G sz) w) (Xx D cy A G (Fr A G sz) M (fun _ => False)) 50 3520 (Fr A G sz) := by
  refine ofXH (Qc := fun sz => WQ D cy A G (Fr A G sz) w) (XC := fun sz => Xx D cy A G (Fr A G sz) M (fun _ => False)) (by decide +kernel) (Nat.le_of_ble_eq_true rfl) ?_
  intro p e s m below meth c hx hb hr hts hown hlocks hml hex hK hR hT hN hw ls hl
  have hl : lv_has ls 4 [(0, .ref (A 0)), (1, .int x1), (2, .ref (A 6))] := hl
  unfold m_L_crash at hm
  obtain ⟨z, e1, hm⟩ := Option.bind_eq_some_iff.mp hm
  refine lv_aload_n hx hb dL_crash_0 rfl (lv_at hl 2 rfl) ?_
  refine lv_iconst (v := 0) hx hb dL_crash_1 rfl ?_
  refine lv_aload_n hx hb dL_crash_2 rfl (lv_at hl 0 rfl) ?_
  refine lv_iload_n hx hb dL_crash_3 rfl (lv_at hl 1 rfl) ?_
  refine vx_calli (xV hx hb hml hts hown hK hR hT Fr_hi hw (c_X5_crash l hfl (⟨rfl, sm_in (by omega)⟩ : TT G 4 0) e1) (⟨rfl, sm_in (by omega)⟩ : TT G 4 0) (by decide) rfl (mkV 1 hts k_ml_RL_15 k_im_yX5_crash k_se_yX5_crash k_in_RX5 k_co_yX5_crash hd_X5_crash ⟨Nat.le_of_ble_eq_true rfl, Nat.le_of_ble_eq_true rfl⟩) rfl hl.1 rfl (Nat.le_of_ble_eq_true rfl) dL_crash_4 ⟨Nat.le_of_ble_eq_true rfl, Nat.le_of_ble_eq_true rfl⟩) hw.2.2 (fun q _ h => Fr_As hw Fr_hi q h) (Fr_As hw Fr_hi) (fun q _ h => Fr_As hw Fr_hi q h) (fun E ce q9 k t H1 locs1 ht _ hp hB _ _ hS hce hcv hcl => ?_) (fun r A1 t H1 locs1 ht _ hp hB _ _ hS => ?_)
  · have hw := wdX hw Fr_hi ht hB.2 hS
    obtain ⟨rfl, -⟩ := hB
    rw [onx_r hp] at hm
    by_cases h1 : k = 1
    · subst h1
      rw [if_pos rfl] at hm
      refine ct1 hts hown hR hex (by decide) (by decide) k_cl_RL_19 hce hcv hcl ?_
      refine lv_astore_n (lv' := [(3, .ref q9), (0, .ref (A 0)), (1, .int x1), (2, .ref (A 6))]) hx hb dL_crash_12 rfl hl (by decide) rfl (fun ls hl => ?_)
      refine lv_iconst (v := 1) hx hb dL_crash_13 rfl ?_
      exact eWI hx hb hr hlocks hw (Option.some.inj hm).symm (fun c h => ⟨rfl, h⟩) (Nat.le_of_ble_eq_true rfl) (Nat.le_of_ble_eq_true rfl) dL_crash_14
    rw [if_neg h1] at hm
    by_cases h2 : k = 2
    · subst h2
      rw [if_pos rfl] at hm
      refine ct12 hts hown hR hN hex (by decide) (by decide) (by decide) k_cl_RL_19 k_cl_RL_13 hce hcv hcl ?_
      refine lv_astore_n (lv' := [(3, .ref q9), (0, .ref (A 0)), (1, .int x1), (2, .ref (A 6))]) hx hb dL_crash_15 rfl hl (by decide) rfl (fun ls hl => ?_)
      refine lv_iconst (v := 2) hx hb dL_crash_16 rfl ?_
      exact eWI hx hb hr hlocks hw (Option.some.inj hm).symm (fun c h => ⟨rfl, h⟩) (Nat.le_of_ble_eq_true rfl) (Nat.le_of_ble_eq_true rfl) dL_crash_17
    rw [if_neg h2] at hm
    cases hm
  · obtain ⟨G', M', hz, hAA⟩ := hp
    obtain ⟨r', G2, M2, hz2, hB⟩ := hB
    cases hz.symm.trans hz2
    rw [onx_l hz] at hm
    have hw := wdX hw Fr_hi ht hB hS
    rw [← (hAA 6 (sm_in (by omega))).1]
    refine lv_i2l hx hb dL_crash_7 rfl ?_
    refine pL hx hb hK hw dL_crash_8 (fun H locs hw => ?_)
    refine lv_goto (tgt := 18) hx hb dL_crash_9 (by decide) ?_
    refine lv_iconst (v := 0) hx hb dL_crash_18 rfl ?_
    exact eWI hx hb hr hlocks hw (Option.some.inj hm).symm (fun c hc => hAA c hc) (Nat.le_of_ble_eq_true rfl) (Nat.le_of_ble_eq_true rfl) dL_crash_19
set_option maxHeartbeats 4000000 in
set_option maxRecDepth 100000 in
theorem c_L_restart (l : Launch) {D : va_G} {cy : Nat → ClassId} {A : Nat → Nat} {G : Nat → Bool} {M : Mem} {sz : Nat} {x1 : Int32} (hfl : l.stackTraces = false) {w : Int32 × (Nat → Bool) × Mem} (hm : m_L_restart x1 G M = some w) : vx_Met l yL_restart (wmW yL_restart cL_restart 4 (some .int) [(0, 9, 12, 19), (0, 9, 15, 13)]) ({ frames := 8, cells := 50, slots := 3520, locals := 194 } : Room) (va_Pc [.ref (A 0), .int x1, .ref (A 6)] (PrN D cy A G M sz)) (WQ D cy A G (Fr A G sz) w) (Xx D cy A G (Fr A G sz) M (fun _ => False)) 50 3520 (Fr A G sz) := by
  refine ofXH (Qc := fun sz => WQ D cy A G (Fr A G sz) w) (XC := fun sz => Xx D cy A G (Fr A G sz) M (fun _ => False)) (by decide +kernel) (Nat.le_of_ble_eq_true rfl) ?_
  intro p e s m below meth c hx hb hr hts hown hlocks hml hex hK hR hT hN hw ls hl
  have hl : lv_has ls 4 [(0, .ref (A 0)), (1, .int x1), (2, .ref (A 6))] := hl
  unfold m_L_restart at hm
  obtain ⟨z, e1, hm⟩ := Option.bind_eq_some_iff.mp hm
  refine lv_aload_n hx hb dL_restart_0 rfl (lv_at hl 2 rfl) ?_
  refine lv_iconst (v := 0) hx hb dL_restart_1 rfl ?_
  refine lv_aload_n hx hb dL_restart_2 rfl (lv_at hl 0 rfl) ?_
  refine lv_iload_n hx hb dL_restart_3 rfl (lv_at hl 1 rfl) ?_
  refine vx_calli (xV hx hb hml hts hown hK hR hT Fr_hi hw (c_X5_restart l hfl (⟨rfl, sm_in (by omega)⟩ : TT G 4 0) e1) (⟨rfl, sm_in (by omega)⟩ : TT G 4 0) (by decide) rfl (mkV 1 hts k_ml_RL_21 k_im_yX5_restart k_se_yX5_restart k_in_RX5 k_co_yX5_restart hd_X5_restart ⟨Nat.le_of_ble_eq_true rfl, Nat.le_of_ble_eq_true rfl⟩) rfl hl.1 rfl (Nat.le_of_ble_eq_true rfl) dL_restart_4 ⟨Nat.le_of_ble_eq_true rfl, Nat.le_of_ble_eq_true rfl⟩) hw.2.2 (fun q _ h => Fr_As hw Fr_hi q h) (Fr_As hw Fr_hi) (fun q _ h => Fr_As hw Fr_hi q h) (fun E ce q9 k t H1 locs1 ht _ hp hB _ _ hS hce hcv hcl => ?_) (fun r A1 t H1 locs1 ht _ hp hB _ _ hS => ?_)
  · have hw := wdX hw Fr_hi ht hB.2 hS
    obtain ⟨rfl, -⟩ := hB
    rw [onx_r hp] at hm
    by_cases h1 : k = 1
    · subst h1
      rw [if_pos rfl] at hm
      refine ct1 hts hown hR hex (by decide) (by decide) k_cl_RL_19 hce hcv hcl ?_
      refine lv_astore_n (lv' := [(3, .ref q9), (0, .ref (A 0)), (1, .int x1), (2, .ref (A 6))]) hx hb dL_restart_12 rfl hl (by decide) rfl (fun ls hl => ?_)
      refine lv_iconst (v := 1) hx hb dL_restart_13 rfl ?_
      exact eWI hx hb hr hlocks hw (Option.some.inj hm).symm (fun c h => ⟨rfl, h⟩) (Nat.le_of_ble_eq_true rfl) (Nat.le_of_ble_eq_true rfl) dL_restart_14
    rw [if_neg h1] at hm
    by_cases h2 : k = 2
    · subst h2
      rw [if_pos rfl] at hm
      refine ct12 hts hown hR hN hex (by decide) (by decide) (by decide) k_cl_RL_19 k_cl_RL_13 hce hcv hcl ?_
      refine lv_astore_n (lv' := [(3, .ref q9), (0, .ref (A 0)), (1, .int x1), (2, .ref (A 6))]) hx hb dL_restart_15 rfl hl (by decide) rfl (fun ls hl => ?_)
      refine lv_iconst (v := 2) hx hb dL_restart_16 rfl ?_
      exact eWI hx hb hr hlocks hw (Option.some.inj hm).symm (fun c h => ⟨rfl, h⟩) (Nat.le_of_ble_eq_true rfl) (Nat.le_of_ble_eq_true rfl) dL_restart_17
    rw [if_neg h2] at hm
    cases hm
  · obtain ⟨G', M', hz, hAA⟩ := hp
    obtain ⟨r', G2, M2, hz2, hB⟩ := hB
    cases hz.symm.trans hz2
    rw [onx_l hz] at hm
    have hw := wdX hw Fr_hi ht hB hS
    rw [← (hAA 6 (sm_in (by omega))).1]
    refine lv_i2l hx hb dL_restart_7 rfl ?_
    refine pL hx hb hK hw dL_restart_8 (fun H locs hw => ?_)
    refine lv_goto (tgt := 18) hx hb dL_restart_9 (by decide) ?_
    refine lv_iconst (v := 0) hx hb dL_restart_18 rfl ?_
    exact eWI hx hb hr hlocks hw (Option.some.inj hm).symm (fun c hc => hAA c hc) (Nat.le_of_ble_eq_true rfl) (Nat.le_of_ble_eq_true rfl) dL_restart_19
set_option maxHeartbeats 4000000 in
set_option maxRecDepth 100000 in
theorem c_L_deliver (l : Launch) {D : va_G} {cy : Nat → ClassId} {A : Nat → Nat} {G : Nat → Bool} {M : Mem} {sz : Nat} {x1 : Int32} (hfl : l.stackTraces = false) {w : Int32 × (Nat → Bool) × Mem} (hm : m_L_deliver x1 G M = some w) : vx_Met l yL_deliver (wmW yL_deliver cL_deliver 4 (some .int) [(0, 9, 12, 19), (0, 9, 15, 13)]) ({ frames := 8, cells := 50, slots := 3520, locals := 194 } : Room) (va_Pc [.ref (A 0), .int x1, .ref (A 6)] (PrN D cy A G M sz)) (WQ D cy A G (Fr A G sz) w) (Xx D cy A G (Fr A G sz) M (fun _ => False)) 50 3520 (Fr A G sz) := by
  refine ofXH (Qc := fun sz => WQ D cy A G (Fr A G sz) w) (XC := fun sz => Xx D cy A G (Fr A G sz) M (fun _ => False)) (by decide +kernel) (Nat.le_of_ble_eq_true rfl) ?_
  intro p e s m below meth c hx hb hr hts hown hlocks hml hex hK hR hT hN hw ls hl
  have hl : lv_has ls 4 [(0, .ref (A 0)), (1, .int x1), (2, .ref (A 6))] := hl
  unfold m_L_deliver at hm
  obtain ⟨z, e1, hm⟩ := Option.bind_eq_some_iff.mp hm
  refine lv_aload_n hx hb dL_deliver_0 rfl (lv_at hl 2 rfl) ?_
  refine lv_iconst (v := 0) hx hb dL_deliver_1 rfl ?_
  refine lv_aload_n hx hb dL_deliver_2 rfl (lv_at hl 0 rfl) ?_
  refine lv_iload_n hx hb dL_deliver_3 rfl (lv_at hl 1 rfl) ?_
  refine vx_calli (xV hx hb hml hts hown hK hR hT Fr_hi hw (c_X5_deliver l hfl (⟨rfl, sm_in (by omega)⟩ : TT G 4 0) e1) (⟨rfl, sm_in (by omega)⟩ : TT G 4 0) (by decide) rfl (mkV 1 hts k_ml_RL_24 k_im_yX5_deliver k_se_yX5_deliver k_in_RX5 k_co_yX5_deliver hd_X5_deliver ⟨Nat.le_of_ble_eq_true rfl, Nat.le_of_ble_eq_true rfl⟩) rfl hl.1 rfl (Nat.le_of_ble_eq_true rfl) dL_deliver_4 ⟨Nat.le_of_ble_eq_true rfl, Nat.le_of_ble_eq_true rfl⟩) hw.2.2 (fun q _ h => Fr_As hw Fr_hi q h) (Fr_As hw Fr_hi) (fun q _ h => Fr_As hw Fr_hi q h) (fun E ce q9 k t H1 locs1 ht _ hp hB _ _ hS hce hcv hcl => ?_) (fun r A1 t H1 locs1 ht _ hp hB _ _ hS => ?_)
  · have hw := wdX hw Fr_hi ht hB.2 hS
    obtain ⟨rfl, -⟩ := hB
    rw [onx_r hp] at hm
    by_cases h1 : k = 1
    · subst h1
      rw [if_pos rfl] at hm
      refine ct1 hts hown hR hex (by decide) (by decide) k_cl_RL_19 hce hcv hcl ?_
      refine lv_astore_n (lv' := [(3, .ref q9), (0, .ref (A 0)), (1, .int x1), (2, .ref (A 6))]) hx hb dL_deliver_12 rfl hl (by decide) rfl (fun ls hl => ?_)
      refine lv_iconst (v := 1) hx hb dL_deliver_13 rfl ?_
      exact eWI hx hb hr hlocks hw (Option.some.inj hm).symm (fun c h => ⟨rfl, h⟩) (Nat.le_of_ble_eq_true rfl) (Nat.le_of_ble_eq_true rfl) dL_deliver_14
    rw [if_neg h1] at hm
    by_cases h2 : k = 2
    · subst h2
      rw [if_pos rfl] at hm
      refine ct12 hts hown hR hN hex (by decide) (by decide) (by decide) k_cl_RL_19 k_cl_RL_13 hce hcv hcl ?_
      refine lv_astore_n (lv' := [(3, .ref q9), (0, .ref (A 0)), (1, .int x1), (2, .ref (A 6))]) hx hb dL_deliver_15 rfl hl (by decide) rfl (fun ls hl => ?_)
      refine lv_iconst (v := 2) hx hb dL_deliver_16 rfl ?_
      exact eWI hx hb hr hlocks hw (Option.some.inj hm).symm (fun c h => ⟨rfl, h⟩) (Nat.le_of_ble_eq_true rfl) (Nat.le_of_ble_eq_true rfl) dL_deliver_17
    rw [if_neg h2] at hm
    cases hm
  · obtain ⟨G', M', hz, hAA⟩ := hp
    obtain ⟨r', G2, M2, hz2, hB⟩ := hB
    cases hz.symm.trans hz2
    rw [onx_l hz] at hm
    have hw := wdX hw Fr_hi ht hB hS
    rw [← (hAA 6 (sm_in (by omega))).1]
    refine lv_i2l hx hb dL_deliver_7 rfl ?_
    refine pL hx hb hK hw dL_deliver_8 (fun H locs hw => ?_)
    refine lv_goto (tgt := 18) hx hb dL_deliver_9 (by decide) ?_
    refine lv_iconst (v := 0) hx hb dL_deliver_18 rfl ?_
    exact eWI hx hb hr hlocks hw (Option.some.inj hm).symm (fun c hc => hAA c hc) (Nat.le_of_ble_eq_true rfl) (Nat.le_of_ble_eq_true rfl) dL_deliver_19
set_option maxHeartbeats 4000000 in
set_option maxRecDepth 100000 in
theorem c_L_inboxLength (l : Launch) {D : va_G} {cy : Nat → ClassId} {A : Nat → Nat} {G : Nat → Bool} {M : Mem} {sz : Nat} {x1 : Int32} (hfl : l.stackTraces = false) {w : Int32 × (Nat → Bool) × Mem} (hm : m_L_inboxLength x1 G M = some w) : vx_Met l yL_inboxLength (wmW yL_inboxLength cL_inboxLength 4 (some .int) [(0, 9, 12, 19)]) ({ frames := 8, cells := 4, slots := 24, locals := 133 } : Room) (va_Pc [.ref (A 0), .int x1, .ref (A 6)] (PrN D cy A G M sz)) (WQ D cy A G (Fr A G sz) w) (Xx D cy A G (Fr A G sz) M (fun _ => False)) 4 24 (Fr A G sz) := by
  refine ofXH (Qc := fun sz => WQ D cy A G (Fr A G sz) w) (XC := fun sz => Xx D cy A G (Fr A G sz) M (fun _ => False)) (by decide +kernel) (Nat.le_of_ble_eq_true rfl) ?_
  intro p e s m below meth c hx hb hr hts hown hlocks hml hex hK hR hT hN hw ls hl
  have hl : lv_has ls 4 [(0, .ref (A 0)), (1, .int x1), (2, .ref (A 6))] := hl
  unfold m_L_inboxLength at hm
  obtain ⟨z, e1, hm⟩ := Option.bind_eq_some_iff.mp hm
  refine lv_aload_n hx hb dL_inboxLength_0 rfl (lv_at hl 2 rfl) ?_
  refine lv_iconst (v := 0) hx hb dL_inboxLength_1 rfl ?_
  refine lv_aload_n hx hb dL_inboxLength_2 rfl (lv_at hl 0 rfl) ?_
  refine lv_iload_n hx hb dL_inboxLength_3 rfl (lv_at hl 1 rfl) ?_
  refine vx_calli (xV hx hb hml hts hown hK hR hT Fr_hi hw (c_X5_inboxLength l hfl (⟨rfl, sm_in (by omega)⟩ : TT G 4 0) e1) (⟨rfl, sm_in (by omega)⟩ : TT G 4 0) (by decide) rfl (mkV 1 hts k_ml_RL_27 k_im_yX5_inboxLength k_se_yX5_inboxLength k_in_RX5 k_co_yX5_inboxLength hd_X5_inboxLength ⟨Nat.le_of_ble_eq_true rfl, Nat.le_of_ble_eq_true rfl⟩) rfl hl.1 rfl (Nat.le_of_ble_eq_true rfl) dL_inboxLength_4 ⟨Nat.le_of_ble_eq_true rfl, Nat.le_of_ble_eq_true rfl⟩) hw.2.2 (fun q _ h => Fr_As hw Fr_hi q h) (Fr_As hw Fr_hi) (fun q _ h => Fr_As hw Fr_hi q h) (fun E ce q9 k t H1 locs1 ht _ hp hB _ _ hS hce hcv hcl => ?_) (fun r u t H1 locs1 ht _ hp hB _ _ hS => ?_)
  · have hw := wdX hw Fr_hi ht hB.2 hS
    obtain ⟨rfl, -⟩ := hB
    rw [onx_r hp] at hm
    by_cases h1 : k = 1
    · subst h1
      rw [if_pos rfl] at hm
      refine ct1 hts hown hR hex (by decide) (by decide) k_cl_RL_19 hce hcv hcl ?_
      refine lv_astore_n (lv' := [(3, .ref q9), (0, .ref (A 0)), (1, .int x1), (2, .ref (A 6))]) hx hb dL_inboxLength_12 rfl hl (by decide) rfl (fun ls hl => ?_)
      refine lv_iconst (v := 1) hx hb dL_inboxLength_13 rfl ?_
      exact eWI hx hb hr hlocks hw (Option.some.inj hm).symm (fun c h => ⟨rfl, h⟩) (Nat.le_of_ble_eq_true rfl) (Nat.le_of_ble_eq_true rfl) dL_inboxLength_14
    rw [if_neg h1] at hm
    cases hm
  · have hw := wdX hw Fr_hi ht hB hS
    rw [onx_l hp] at hm
    refine lv_i2l hx hb dL_inboxLength_7 rfl ?_
    refine pL hx hb hK hw dL_inboxLength_8 (fun H locs hw => ?_)
    refine lv_goto (tgt := 15) hx hb dL_inboxLength_9 (by decide) ?_
    refine lv_iconst (v := 0) hx hb dL_inboxLength_15 rfl ?_
    exact eWI hx hb hr hlocks hw (Option.some.inj hm).symm (fun c h => ⟨rfl, h⟩) (Nat.le_of_ble_eq_true rfl) (Nat.le_of_ble_eq_true rfl) dL_inboxLength_16
set_option maxHeartbeats 4000000 in
set_option maxRecDepth 100000 in
theorem c_L_weight (l : Launch) {D : va_G} {cy : Nat → ClassId} {A : Nat → Nat} {G : Nat → Bool} {M : Mem} {sz : Nat} {x1 : Int32} (hfl : l.stackTraces = false) {w : Int32 × (Nat → Bool) × Mem} (hm : m_L_weight x1 G M = some w) : vx_Met l yL_weight (wmW yL_weight cL_weight 4 (some .int) [(0, 9, 12, 19)]) ({ frames := 8, cells := 4, slots := 24, locals := 133 } : Room) (va_Pc [.ref (A 0), .int x1, .ref (A 6)] (PrN D cy A G M sz)) (WQ D cy A G (Fr A G sz) w) (Xx D cy A G (Fr A G sz) M (fun _ => False)) 4 24 (Fr A G sz) := by
  refine ofXH (Qc := fun sz => WQ D cy A G (Fr A G sz) w) (XC := fun sz => Xx D cy A G (Fr A G sz) M (fun _ => False)) (by decide +kernel) (Nat.le_of_ble_eq_true rfl) ?_
  intro p e s m below meth c hx hb hr hts hown hlocks hml hex hK hR hT hN hw ls hl
  have hl : lv_has ls 4 [(0, .ref (A 0)), (1, .int x1), (2, .ref (A 6))] := hl
  unfold m_L_weight at hm
  obtain ⟨z, e1, hm⟩ := Option.bind_eq_some_iff.mp hm
  refine lv_aload_n hx hb dL_weight_0 rfl (lv_at hl 2 rfl) ?_
  refine lv_iconst (v := 0) hx hb dL_weight_1 rfl ?_
  refine lv_aload_n hx hb dL_weight_2 rfl (lv_at hl 0 rfl) ?_
  refine lv_iload_n hx hb dL_weight_3 rfl (lv_at hl 1 rfl) ?_
  refine vx_calli (xV hx hb hml hts hown hK hR hT Fr_hi hw (c_X5_weight l hfl (⟨rfl, sm_in (by omega)⟩ : TT G 4 0) e1) (⟨rfl, sm_in (by omega)⟩ : TT G 4 0) (by decide) rfl (mkV 1 hts k_ml_RL_30 k_im_yX5_weight k_se_yX5_weight k_in_RX5 k_co_yX5_weight hd_X5_weight ⟨Nat.le_of_ble_eq_true rfl, Nat.le_of_ble_eq_true rfl⟩) rfl hl.1 rfl (Nat.le_of_ble_eq_true rfl) dL_weight_4 ⟨Nat.le_of_ble_eq_true rfl, Nat.le_of_ble_eq_true rfl⟩) hw.2.2 (fun q _ h => Fr_As hw Fr_hi q h) (Fr_As hw Fr_hi) (fun q _ h => Fr_As hw Fr_hi q h) (fun E ce q9 k t H1 locs1 ht _ hp hB _ _ hS hce hcv hcl => ?_) (fun r u t H1 locs1 ht _ hp hB _ _ hS => ?_)
  · have hw := wdX hw Fr_hi ht hB.2 hS
    obtain ⟨rfl, -⟩ := hB
    rw [onx_r hp] at hm
    by_cases h1 : k = 1
    · subst h1
      rw [if_pos rfl] at hm
      refine ct1 hts hown hR hex (by decide) (by decide) k_cl_RL_19 hce hcv hcl ?_
      refine lv_astore_n (lv' := [(3, .ref q9), (0, .ref (A 0)), (1, .int x1), (2, .ref (A 6))]) hx hb dL_weight_12 rfl hl (by decide) rfl (fun ls hl => ?_)
      refine lv_iconst (v := 1) hx hb dL_weight_13 rfl ?_
      exact eWI hx hb hr hlocks hw (Option.some.inj hm).symm (fun c h => ⟨rfl, h⟩) (Nat.le_of_ble_eq_true rfl) (Nat.le_of_ble_eq_true rfl) dL_weight_14
    rw [if_neg h1] at hm
    cases hm
  · have hw := wdX hw Fr_hi ht hB hS
    rw [onx_l hp] at hm
    refine lv_i2l hx hb dL_weight_7 rfl ?_
    refine pL hx hb hK hw dL_weight_8 (fun H locs hw => ?_)
    refine lv_goto (tgt := 15) hx hb dL_weight_9 (by decide) ?_
    refine lv_iconst (v := 0) hx hb dL_weight_15 rfl ?_
    exact eWI hx hb hr hlocks hw (Option.some.inj hm).symm (fun c h => ⟨rfl, h⟩) (Nat.le_of_ble_eq_true rfl) (Nat.le_of_ble_eq_true rfl) dL_weight_16
set_option maxHeartbeats 4000000 in
set_option maxRecDepth 100000 in
theorem c_L_share (l : Launch) {D : va_G} {cy : Nat → ClassId} {A : Nat → Nat} {G : Nat → Bool} {M : Mem} {sz : Nat} {x1 : Int32} (hfl : l.stackTraces = false) {w : Int32 × (Nat → Bool) × Mem} (hm : m_L_share x1 G M = some w) : vx_Met l yL_share (wmW yL_share cL_share 4 (some .int) [(0, 9, 12, 19)]) ({ frames := 8, cells := 4, slots := 24, locals := 133 } : Room) (va_Pc [.ref (A 0), .int x1, .ref (A 7)] (PrN D cy A G M sz)) (WQ D cy A G (Fr A G sz) w) (Xx D cy A G (Fr A G sz) M (fun _ => False)) 4 24 (Fr A G sz) := by
  refine ofXH (Qc := fun sz => WQ D cy A G (Fr A G sz) w) (XC := fun sz => Xx D cy A G (Fr A G sz) M (fun _ => False)) (by decide +kernel) (Nat.le_of_ble_eq_true rfl) ?_
  intro p e s m below meth c hx hb hr hts hown hlocks hml hex hK hR hT hN hw ls hl
  have hl : lv_has ls 4 [(0, .ref (A 0)), (1, .int x1), (2, .ref (A 7))] := hl
  unfold m_L_share at hm
  obtain ⟨z, e1, hm⟩ := Option.bind_eq_some_iff.mp hm
  refine lv_aload_n hx hb dL_share_0 rfl (lv_at hl 2 rfl) ?_
  refine lv_iconst (v := 0) hx hb dL_share_1 rfl ?_
  refine lv_aload_n hx hb dL_share_2 rfl (lv_at hl 0 rfl) ?_
  refine lv_iload_n hx hb dL_share_3 rfl (lv_at hl 1 rfl) ?_
  refine vx_callf (xV hx hb hml hts hown hK hR hT Fr_hi hw (c_X5_share l hfl (⟨rfl, sm_in (by omega)⟩ : TT G 4 0) e1) (⟨rfl, sm_in (by omega)⟩ : TT G 4 0) (by decide) rfl (mkV 1 hts k_ml_RL_33 k_im_yX5_share k_se_yX5_share k_in_RX5 k_co_yX5_share hd_X5_share ⟨Nat.le_of_ble_eq_true rfl, Nat.le_of_ble_eq_true rfl⟩) rfl hl.1 rfl (Nat.le_of_ble_eq_true rfl) dL_share_4 ⟨Nat.le_of_ble_eq_true rfl, Nat.le_of_ble_eq_true rfl⟩) hw.2.2 (fun q _ h => Fr_As hw Fr_hi q h) (Fr_As hw Fr_hi) (fun q _ h => Fr_As hw Fr_hi q h) (fun E ce q9 k t H1 locs1 ht _ hp hB _ _ hS hce hcv hcl => ?_) (fun r u t H1 locs1 ht _ hp hB _ _ hS => ?_)
  · have hw := wdX hw Fr_hi ht hB.2 hS
    obtain ⟨rfl, -⟩ := hB
    rw [onx_r hp] at hm
    by_cases h1 : k = 1
    · subst h1
      rw [if_pos rfl] at hm
      refine ct1 hts hown hR hex (by decide) (by decide) k_cl_RL_19 hce hcv hcl ?_
      refine lv_astore_n (lv' := [(3, .ref q9), (0, .ref (A 0)), (1, .int x1), (2, .ref (A 7))]) hx hb dL_share_12 rfl hl (by decide) rfl (fun ls hl => ?_)
      refine lv_iconst (v := 1) hx hb dL_share_13 rfl ?_
      exact eWI hx hb hr hlocks hw (Option.some.inj hm).symm (fun c h => ⟨rfl, h⟩) (Nat.le_of_ble_eq_true rfl) (Nat.le_of_ble_eq_true rfl) dL_share_14
    rw [if_neg h1] at hm
    cases hm
  · have hw := wdX hw Fr_hi ht hB hS
    rw [onx_l hp] at hm
    obtain ⟨hn, hm⟩ := ck_some hm
    refine lv_f2d hx hb dL_share_7 hn ?_
    refine pD hx hb hK hw dL_share_8 (fun H locs hw => ?_)
    refine lv_goto (tgt := 15) hx hb dL_share_9 (by decide) ?_
    refine lv_iconst (v := 0) hx hb dL_share_15 rfl ?_
    exact eWI hx hb hr hlocks hw (Option.some.inj hm).symm (fun c h => ⟨rfl, h⟩) (Nat.le_of_ble_eq_true rfl) (Nat.le_of_ble_eq_true rfl) dL_share_16
set_option maxHeartbeats 4000000 in
set_option maxRecDepth 100000 in
theorem c_L_isFenced (l : Launch) {D : va_G} {cy : Nat → ClassId} {A : Nat → Nat} {G : Nat → Bool} {M : Mem} {sz : Nat} {x1 : Int32} {x2 : Int32} (hfl : l.stackTraces = false) {w : Int32 × (Nat → Bool) × Mem} (hm : m_L_isFenced x1 x2 G M = some w) : vx_Met l yL_isFenced (wmW yL_isFenced cL_isFenced 5 (some .int) [(0, 17, 20, 19)]) ({ frames := 8, cells := 4, slots := 24, locals := 135 } : Room) (va_Pc [.ref (A 0), .int x1, .int x2, .ref (A 6)] (PrN D cy A G M sz)) (WQ D cy A G (Fr A G sz) w) (Xx D cy A G (Fr A G sz) M (fun _ => False)) 4 24 (Fr A G sz) := by
  refine ofXH (Qc := fun sz => WQ D cy A G (Fr A G sz) w) (XC := fun sz => Xx D cy A G (Fr A G sz) M (fun _ => False)) (by decide +kernel) (Nat.le_of_ble_eq_true rfl) ?_
  intro p e s m below meth c hx hb hr hts hown hlocks hml hex hK hR hT hN hw ls hl
  have hl : lv_has ls 5 [(0, .ref (A 0)), (1, .int x1), (2, .int x2), (3, .ref (A 6))] := hl
  unfold m_L_isFenced at hm
  obtain ⟨z, e1, hm⟩ := Option.bind_eq_some_iff.mp hm
  refine lv_aload_n hx hb dL_isFenced_0 rfl (lv_at hl 3 rfl) ?_
  refine lv_iconst (v := 0) hx hb dL_isFenced_1 rfl ?_
  refine lv_aload_n hx hb dL_isFenced_2 rfl (lv_at hl 0 rfl) ?_
  refine lv_iload_n hx hb dL_isFenced_3 rfl (lv_at hl 1 rfl) ?_
  refine lv_iload_n hx hb dL_isFenced_4 rfl (lv_at hl 2 rfl) ?_
  refine vx_calli (xV hx hb hml hts hown hK hR hT Fr_hi hw (c_X5_isFenced l hfl (⟨rfl, sm_in (by omega)⟩ : TT G 4 0) e1) (⟨rfl, sm_in (by omega)⟩ : TT G 4 0) (by decide) rfl (mkV 2 hts k_ml_RL_37 k_im_yX5_isFenced k_se_yX5_isFenced k_in_RX5 k_co_yX5_isFenced hd_X5_isFenced ⟨Nat.le_of_ble_eq_true rfl, Nat.le_of_ble_eq_true rfl⟩) rfl hl.1 rfl (Nat.le_of_ble_eq_true rfl) dL_isFenced_5 ⟨Nat.le_of_ble_eq_true rfl, Nat.le_of_ble_eq_true rfl⟩) hw.2.2 (fun q _ h => Fr_As hw Fr_hi q h) (Fr_As hw Fr_hi) (fun q _ h => Fr_As hw Fr_hi q h) (fun E ce q9 k t H1 locs1 ht _ hp hB _ _ hS hce hcv hcl => ?_) (fun r u t H1 locs1 ht _ hp hB _ _ hS => ?_)
  · have hw := wdX hw Fr_hi ht hB.2 hS
    obtain ⟨rfl, -⟩ := hB
    rw [onx_r hp] at hm
    by_cases h1 : k = 1
    · subst h1
      rw [if_pos rfl] at hm
      refine ct1 hts hown hR hex (by decide) (by decide) k_cl_RL_19 hce hcv hcl ?_
      refine lv_astore (lv' := [(4, .ref q9), (0, .ref (A 0)), (1, .int x1), (2, .int x2), (3, .ref (A 6))]) hx hb dL_isFenced_20 hl (by decide) rfl (fun ls hl => ?_)
      refine lv_iconst (v := 1) hx hb dL_isFenced_22 rfl ?_
      exact eWI hx hb hr hlocks hw (Option.some.inj hm).symm (fun c h => ⟨rfl, h⟩) (Nat.le_of_ble_eq_true rfl) (Nat.le_of_ble_eq_true rfl) dL_isFenced_23
    rw [if_neg h1] at hm
    cases hm
  · have hw := wdX hw Fr_hi ht hB hS
    rw [onx_l hp] at hm
    refine lv_if_eq (tgt := 15) hx hb dL_isFenced_8 (by decide) (fun h0 => ?_) (fun h0 => ?_)
    · skip
      refine lv_lconst (v := 0) hx hb dL_isFenced_15 rfl ?_
      refine pL hx hb hK hw dL_isFenced_16 (fun H locs hw => ?_)
      rw [show i2 r = 0 from if_pos h0] at hm
      refine lv_goto (tgt := 24) hx hb dL_isFenced_17 (by decide) ?_
      refine lv_iconst (v := 0) hx hb dL_isFenced_24 rfl ?_
      exact eWI hx hb hr hlocks hw (Option.some.inj hm).symm (fun c h => ⟨rfl, h⟩) (Nat.le_of_ble_eq_true rfl) (Nat.le_of_ble_eq_true rfl) dL_isFenced_25
    · skip
      refine lv_lconst (v := 1) hx hb dL_isFenced_11 rfl ?_
      refine lv_goto (tgt := 16) hx hb dL_isFenced_12 (by decide) ?_
      refine pL hx hb hK hw dL_isFenced_16 (fun H locs hw => ?_)
      rw [show i2 r = 1 from if_neg h0] at hm
      refine lv_goto (tgt := 24) hx hb dL_isFenced_17 (by decide) ?_
      refine lv_iconst (v := 0) hx hb dL_isFenced_24 rfl ?_
      exact eWI hx hb hr hlocks hw (Option.some.inj hm).symm (fun c h => ⟨rfl, h⟩) (Nat.le_of_ble_eq_true rfl) (Nat.le_of_ble_eq_true rfl) dL_isFenced_25
set_option maxHeartbeats 4000000 in
set_option maxRecDepth 100000 in
theorem c_L_createLedger (l : Launch) {D : va_G} {cy : Nat → ClassId} {A : Nat → Nat} {G : Nat → Bool} {M : Mem} {sz : Nat} {x1 : Int32} {x2 : Int32} {x3 : Int32} (hfl : l.stackTraces = false) {w : Int32 × (Nat → Bool) × Mem} (hm : m_L_createLedger x1 x2 x3 G M = some w) : vx_Met l yL_createLedger (wmW yL_createLedger cL_createLedger 6 (some .int) [(0, 12, 15, 19), (0, 12, 19, 13)]) ({ frames := 7, cells := 50, slots := 3520, locals := 195 } : Room) (va_Pc [.ref (A 0), .int x1, .int x2, .int x3, .ref (A 6)] (PrN D cy A G M sz)) (WQ D cy A G (Fr A G sz) w) (Xx D cy A G (Fr A G sz) M (fun _ => False)) 50 3520 (Fr A G sz) := by
  refine ofXH (Qc := fun sz => WQ D cy A G (Fr A G sz) w) (XC := fun sz => Xx D cy A G (Fr A G sz) M (fun _ => False)) (by decide +kernel) (Nat.le_of_ble_eq_true rfl) ?_
  intro p e s m below meth c hx hb hr hts hown hlocks hml hex hK hR hT hN hw ls hl
  have hl : lv_has ls 6 [(0, .ref (A 0)), (1, .int x1), (2, .int x2), (3, .int x3), (4, .ref (A 6))] := hl
  unfold m_L_createLedger at hm
  obtain ⟨z, e1, hm⟩ := Option.bind_eq_some_iff.mp hm
  refine lv_aload hx hb dL_createLedger_0 (lv_at hl 4 rfl) ?_
  refine lv_iconst (v := 0) hx hb dL_createLedger_2 rfl ?_
  refine lv_aload_n hx hb dL_createLedger_3 rfl (lv_at hl 0 rfl) ?_
  refine lv_iload_n hx hb dL_createLedger_4 rfl (lv_at hl 1 rfl) ?_
  refine lv_iload_n hx hb dL_createLedger_5 rfl (lv_at hl 2 rfl) ?_
  refine lv_iload_n hx hb dL_createLedger_6 rfl (lv_at hl 3 rfl) ?_
  refine vx_calli (xV hx hb hml hts hown hK hR hT Fr_hi hw (c_X5_createLedger l hfl (⟨rfl, sm_in (by omega)⟩ : TT G 4 0) e1) (⟨rfl, sm_in (by omega)⟩ : TT G 4 0) (by decide) rfl (mkV 3 hts k_ml_RL_41 k_im_yX5_createLedger k_se_yX5_createLedger k_in_RX5 k_co_yX5_createLedger hd_X5_createLedger ⟨Nat.le_of_ble_eq_true rfl, Nat.le_of_ble_eq_true rfl⟩) rfl hl.1 rfl (Nat.le_of_ble_eq_true rfl) dL_createLedger_7 ⟨Nat.le_of_ble_eq_true rfl, Nat.le_of_ble_eq_true rfl⟩) hw.2.2 (fun q _ h => Fr_As hw Fr_hi q h) (Fr_As hw Fr_hi) (fun q _ h => Fr_As hw Fr_hi q h) (fun E ce q9 k t H1 locs1 ht _ hp hB _ _ hS hce hcv hcl => ?_) (fun r A1 t H1 locs1 ht _ hp hB _ _ hS => ?_)
  · have hw := wdX hw Fr_hi ht hB.2 hS
    obtain ⟨rfl, -⟩ := hB
    rw [onx_r hp] at hm
    by_cases h1 : k = 1
    · subst h1
      rw [if_pos rfl] at hm
      refine ct1 hts hown hR hex (by decide) (by decide) k_cl_RL_19 hce hcv hcl ?_
      refine lv_astore (lv' := [(5, .ref q9), (0, .ref (A 0)), (1, .int x1), (2, .int x2), (3, .int x3), (4, .ref (A 6))]) hx hb dL_createLedger_15 hl (by decide) rfl (fun ls hl => ?_)
      refine lv_iconst (v := 1) hx hb dL_createLedger_17 rfl ?_
      exact eWI hx hb hr hlocks hw (Option.some.inj hm).symm (fun c h => ⟨rfl, h⟩) (Nat.le_of_ble_eq_true rfl) (Nat.le_of_ble_eq_true rfl) dL_createLedger_18
    rw [if_neg h1] at hm
    by_cases h2 : k = 2
    · subst h2
      rw [if_pos rfl] at hm
      refine ct12 hts hown hR hN hex (by decide) (by decide) (by decide) k_cl_RL_19 k_cl_RL_13 hce hcv hcl ?_
      refine lv_astore (lv' := [(5, .ref q9), (0, .ref (A 0)), (1, .int x1), (2, .int x2), (3, .int x3), (4, .ref (A 6))]) hx hb dL_createLedger_19 hl (by decide) rfl (fun ls hl => ?_)
      refine lv_iconst (v := 2) hx hb dL_createLedger_21 rfl ?_
      exact eWI hx hb hr hlocks hw (Option.some.inj hm).symm (fun c h => ⟨rfl, h⟩) (Nat.le_of_ble_eq_true rfl) (Nat.le_of_ble_eq_true rfl) dL_createLedger_22
    rw [if_neg h2] at hm
    cases hm
  · obtain ⟨G', M', hz, hAA⟩ := hp
    obtain ⟨r', G2, M2, hz2, hB⟩ := hB
    cases hz.symm.trans hz2
    rw [onx_l hz] at hm
    have hw := wdX hw Fr_hi ht hB hS
    rw [← (hAA 6 (sm_in (by omega))).1]
    refine lv_i2l hx hb dL_createLedger_10 rfl ?_
    refine pL hx hb hK hw dL_createLedger_11 (fun H locs hw => ?_)
    refine lv_goto (tgt := 23) hx hb dL_createLedger_12 (by decide) ?_
    refine lv_iconst (v := 0) hx hb dL_createLedger_23 rfl ?_
    exact eWI hx hb hr hlocks hw (Option.some.inj hm).symm (fun c hc => hAA c hc) (Nat.le_of_ble_eq_true rfl) (Nat.le_of_ble_eq_true rfl) dL_createLedger_24
set_option maxHeartbeats 4000000 in
set_option maxRecDepth 100000 in
theorem c_L_append (l : Launch) {D : va_G} {cy : Nat → ClassId} {A : Nat → Nat} {G : Nat → Bool} {M : Mem} {sz : Nat} {x1 : Int32} {x2 : Int32} (hfl : l.stackTraces = false) {w : Int32 × (Nat → Bool) × Mem} (hm : m_L_append x1 x2 G M = some w) : vx_Met l yL_append (wmW yL_append cL_append 5 (some .int) [(0, 10, 13, 19), (0, 10, 17, 13)]) ({ frames := 8, cells := 50, slots := 3520, locals := 195 } : Room) (va_Pc [.ref (A 0), .int x1, .int x2, .ref (A 6)] (PrN D cy A G M sz)) (WQ D cy A G (Fr A G sz) w) (Xx D cy A G (Fr A G sz) M (fun _ => False)) 50 3520 (Fr A G sz) := by
  refine ofXH (Qc := fun sz => WQ D cy A G (Fr A G sz) w) (XC := fun sz => Xx D cy A G (Fr A G sz) M (fun _ => False)) (by decide +kernel) (Nat.le_of_ble_eq_true rfl) ?_
  intro p e s m below meth c hx hb hr hts hown hlocks hml hex hK hR hT hN hw ls hl
  have hl : lv_has ls 5 [(0, .ref (A 0)), (1, .int x1), (2, .int x2), (3, .ref (A 6))] := hl
  unfold m_L_append at hm
  obtain ⟨z, e1, hm⟩ := Option.bind_eq_some_iff.mp hm
  refine lv_aload_n hx hb dL_append_0 rfl (lv_at hl 3 rfl) ?_
  refine lv_iconst (v := 0) hx hb dL_append_1 rfl ?_
  refine lv_aload_n hx hb dL_append_2 rfl (lv_at hl 0 rfl) ?_
  refine lv_iload_n hx hb dL_append_3 rfl (lv_at hl 1 rfl) ?_
  refine lv_iload_n hx hb dL_append_4 rfl (lv_at hl 2 rfl) ?_
  refine vx_calli (xV hx hb hml hts hown hK hR hT Fr_hi hw (c_X5_append l hfl (⟨rfl, sm_in (by omega)⟩ : TT G 4 0) e1) (⟨rfl, sm_in (by omega)⟩ : TT G 4 0) (by decide) rfl (mkV 2 hts k_ml_RL_45 k_im_yX5_append k_se_yX5_append k_in_RX5 k_co_yX5_append hd_X5_append ⟨Nat.le_of_ble_eq_true rfl, Nat.le_of_ble_eq_true rfl⟩) rfl hl.1 rfl (Nat.le_of_ble_eq_true rfl) dL_append_5 ⟨Nat.le_of_ble_eq_true rfl, Nat.le_of_ble_eq_true rfl⟩) hw.2.2 (fun q _ h => Fr_As hw Fr_hi q h) (Fr_As hw Fr_hi) (fun q _ h => Fr_As hw Fr_hi q h) (fun E ce q9 k t H1 locs1 ht _ hp hB _ _ hS hce hcv hcl => ?_) (fun r A1 t H1 locs1 ht _ hp hB _ _ hS => ?_)
  · have hw := wdX hw Fr_hi ht hB.2 hS
    obtain ⟨rfl, -⟩ := hB
    rw [onx_r hp] at hm
    by_cases h1 : k = 1
    · subst h1
      rw [if_pos rfl] at hm
      refine ct1 hts hown hR hex (by decide) (by decide) k_cl_RL_19 hce hcv hcl ?_
      refine lv_astore (lv' := [(4, .ref q9), (0, .ref (A 0)), (1, .int x1), (2, .int x2), (3, .ref (A 6))]) hx hb dL_append_13 hl (by decide) rfl (fun ls hl => ?_)
      refine lv_iconst (v := 1) hx hb dL_append_15 rfl ?_
      exact eWI hx hb hr hlocks hw (Option.some.inj hm).symm (fun c h => ⟨rfl, h⟩) (Nat.le_of_ble_eq_true rfl) (Nat.le_of_ble_eq_true rfl) dL_append_16
    rw [if_neg h1] at hm
    by_cases h2 : k = 2
    · subst h2
      rw [if_pos rfl] at hm
      refine ct12 hts hown hR hN hex (by decide) (by decide) (by decide) k_cl_RL_19 k_cl_RL_13 hce hcv hcl ?_
      refine lv_astore (lv' := [(4, .ref q9), (0, .ref (A 0)), (1, .int x1), (2, .int x2), (3, .ref (A 6))]) hx hb dL_append_17 hl (by decide) rfl (fun ls hl => ?_)
      refine lv_iconst (v := 2) hx hb dL_append_19 rfl ?_
      exact eWI hx hb hr hlocks hw (Option.some.inj hm).symm (fun c h => ⟨rfl, h⟩) (Nat.le_of_ble_eq_true rfl) (Nat.le_of_ble_eq_true rfl) dL_append_20
    rw [if_neg h2] at hm
    cases hm
  · obtain ⟨G', M', hz, hAA⟩ := hp
    obtain ⟨r', G2, M2, hz2, hB⟩ := hB
    cases hz.symm.trans hz2
    rw [onx_l hz] at hm
    have hw := wdX hw Fr_hi ht hB hS
    rw [← (hAA 6 (sm_in (by omega))).1]
    refine lv_i2l hx hb dL_append_8 rfl ?_
    refine pL hx hb hK hw dL_append_9 (fun H locs hw => ?_)
    refine lv_goto (tgt := 21) hx hb dL_append_10 (by decide) ?_
    refine lv_iconst (v := 0) hx hb dL_append_21 rfl ?_
    exact eWI hx hb hr hlocks hw (Option.some.inj hm).symm (fun c hc => hAA c hc) (Nat.le_of_ble_eq_true rfl) (Nat.le_of_ble_eq_true rfl) dL_append_22
set_option maxHeartbeats 4000000 in
set_option maxRecDepth 100000 in
theorem c_L_replace (l : Launch) {D : va_G} {cy : Nat → ClassId} {A : Nat → Nat} {G : Nat → Bool} {M : Mem} {sz : Nat} {x1 : Int32} {x2 : Int32} (hfl : l.stackTraces = false) {w : Int32 × (Nat → Bool) × Mem} (hm : m_L_replace x1 x2 G M = some w) : vx_Met l yL_replace (wmW yL_replace cL_replace 5 (some .int) [(0, 10, 13, 19), (0, 10, 17, 13)]) ({ frames := 8, cells := 50, slots := 3520, locals := 196 } : Room) (va_Pc [.ref (A 0), .int x1, .int x2, .ref (A 6)] (PrN D cy A G M sz)) (WQ D cy A G (Fr A G sz) w) (Xx D cy A G (Fr A G sz) M (fun _ => False)) 50 3520 (Fr A G sz) := by
  refine ofXH (Qc := fun sz => WQ D cy A G (Fr A G sz) w) (XC := fun sz => Xx D cy A G (Fr A G sz) M (fun _ => False)) (by decide +kernel) (Nat.le_of_ble_eq_true rfl) ?_
  intro p e s m below meth c hx hb hr hts hown hlocks hml hex hK hR hT hN hw ls hl
  have hl : lv_has ls 5 [(0, .ref (A 0)), (1, .int x1), (2, .int x2), (3, .ref (A 6))] := hl
  unfold m_L_replace at hm
  obtain ⟨z, e1, hm⟩ := Option.bind_eq_some_iff.mp hm
  refine lv_aload_n hx hb dL_replace_0 rfl (lv_at hl 3 rfl) ?_
  refine lv_iconst (v := 0) hx hb dL_replace_1 rfl ?_
  refine lv_aload_n hx hb dL_replace_2 rfl (lv_at hl 0 rfl) ?_
  refine lv_iload_n hx hb dL_replace_3 rfl (lv_at hl 1 rfl) ?_
  refine lv_iload_n hx hb dL_replace_4 rfl (lv_at hl 2 rfl) ?_
  refine vx_calli (xV hx hb hml hts hown hK hR hT Fr_hi hw (c_X5_replace l hfl (⟨rfl, sm_in (by omega)⟩ : TT G 4 0) e1) (⟨rfl, sm_in (by omega)⟩ : TT G 4 0) (by decide) rfl (mkV 2 hts k_ml_RL_49 k_im_yX5_replace k_se_yX5_replace k_in_RX5 k_co_yX5_replace hd_X5_replace ⟨Nat.le_of_ble_eq_true rfl, Nat.le_of_ble_eq_true rfl⟩) rfl hl.1 rfl (Nat.le_of_ble_eq_true rfl) dL_replace_5 ⟨Nat.le_of_ble_eq_true rfl, Nat.le_of_ble_eq_true rfl⟩) hw.2.2 (fun q _ h => Fr_As hw Fr_hi q h) (Fr_As hw Fr_hi) (fun q _ h => Fr_As hw Fr_hi q h) (fun E ce q9 k t H1 locs1 ht _ hp hB _ _ hS hce hcv hcl => ?_) (fun r A1 t H1 locs1 ht _ hp hB _ _ hS => ?_)
  · have hw := wdX hw Fr_hi ht hB.2 hS
    obtain ⟨rfl, -⟩ := hB
    rw [onx_r hp] at hm
    by_cases h1 : k = 1
    · subst h1
      rw [if_pos rfl] at hm
      refine ct1 hts hown hR hex (by decide) (by decide) k_cl_RL_19 hce hcv hcl ?_
      refine lv_astore (lv' := [(4, .ref q9), (0, .ref (A 0)), (1, .int x1), (2, .int x2), (3, .ref (A 6))]) hx hb dL_replace_13 hl (by decide) rfl (fun ls hl => ?_)
      refine lv_iconst (v := 1) hx hb dL_replace_15 rfl ?_
      exact eWI hx hb hr hlocks hw (Option.some.inj hm).symm (fun c h => ⟨rfl, h⟩) (Nat.le_of_ble_eq_true rfl) (Nat.le_of_ble_eq_true rfl) dL_replace_16
    rw [if_neg h1] at hm
    by_cases h2 : k = 2
    · subst h2
      rw [if_pos rfl] at hm
      refine ct12 hts hown hR hN hex (by decide) (by decide) (by decide) k_cl_RL_19 k_cl_RL_13 hce hcv hcl ?_
      refine lv_astore (lv' := [(4, .ref q9), (0, .ref (A 0)), (1, .int x1), (2, .int x2), (3, .ref (A 6))]) hx hb dL_replace_17 hl (by decide) rfl (fun ls hl => ?_)
      refine lv_iconst (v := 2) hx hb dL_replace_19 rfl ?_
      exact eWI hx hb hr hlocks hw (Option.some.inj hm).symm (fun c h => ⟨rfl, h⟩) (Nat.le_of_ble_eq_true rfl) (Nat.le_of_ble_eq_true rfl) dL_replace_20
    rw [if_neg h2] at hm
    cases hm
  · obtain ⟨G', M', hz, hAA⟩ := hp
    obtain ⟨r', G2, M2, hz2, hB⟩ := hB
    cases hz.symm.trans hz2
    rw [onx_l hz] at hm
    have hw := wdX hw Fr_hi ht hB hS
    rw [← (hAA 6 (sm_in (by omega))).1]
    refine lv_i2l hx hb dL_replace_8 rfl ?_
    refine pL hx hb hK hw dL_replace_9 (fun H locs hw => ?_)
    refine lv_goto (tgt := 21) hx hb dL_replace_10 (by decide) ?_
    refine lv_iconst (v := 0) hx hb dL_replace_21 rfl ?_
    exact eWI hx hb hr hlocks hw (Option.some.inj hm).symm (fun c hc => hAA c hc) (Nat.le_of_ble_eq_true rfl) (Nat.le_of_ble_eq_true rfl) dL_replace_22
set_option maxHeartbeats 4000000 in
set_option maxRecDepth 100000 in
theorem c_L_recover (l : Launch) {D : va_G} {cy : Nat → ClassId} {A : Nat → Nat} {G : Nat → Bool} {M : Mem} {sz : Nat} {x1 : Int32} (hfl : l.stackTraces = false) {w : Int32 × (Nat → Bool) × Mem} (hm : m_L_recover x1 G M = some w) : vx_Met l yL_recover (wmW yL_recover cL_recover 4 (some .int) [(0, 9, 12, 19), (0, 9, 15, 13)]) ({ frames := 8, cells := 50, slots := 3520, locals := 194 } : Room) (va_Pc [.ref (A 0), .int x1, .ref (A 6)] (PrN D cy A G M sz)) (WQ D cy A G (Fr A G sz) w) (Xx D cy A G (Fr A G sz) M (fun _ => False)) 50 3520 (Fr A G sz) := by
  refine ofXH (Qc := fun sz => WQ D cy A G (Fr A G sz) w) (XC := fun sz => Xx D cy A G (Fr A G sz) M (fun _ => False)) (by decide +kernel) (Nat.le_of_ble_eq_true rfl) ?_
  intro p e s m below meth c hx hb hr hts hown hlocks hml hex hK hR hT hN hw ls hl
  have hl : lv_has ls 4 [(0, .ref (A 0)), (1, .int x1), (2, .ref (A 6))] := hl
  unfold m_L_recover at hm
  obtain ⟨z, e1, hm⟩ := Option.bind_eq_some_iff.mp hm
  refine lv_aload_n hx hb dL_recover_0 rfl (lv_at hl 2 rfl) ?_
  refine lv_iconst (v := 0) hx hb dL_recover_1 rfl ?_
  refine lv_aload_n hx hb dL_recover_2 rfl (lv_at hl 0 rfl) ?_
  refine lv_iload_n hx hb dL_recover_3 rfl (lv_at hl 1 rfl) ?_
  refine vx_calli (xV hx hb hml hts hown hK hR hT Fr_hi hw (c_X5_recover l hfl (⟨rfl, sm_in (by omega)⟩ : TT G 4 0) e1) (⟨rfl, sm_in (by omega)⟩ : TT G 4 0) (by decide) rfl (mkV 1 hts k_ml_RL_52 k_im_yX5_recover k_se_yX5_recover k_in_RX5 k_co_yX5_recover hd_X5_recover ⟨Nat.le_of_ble_eq_true rfl, Nat.le_of_ble_eq_true rfl⟩) rfl hl.1 rfl (Nat.le_of_ble_eq_true rfl) dL_recover_4 ⟨Nat.le_of_ble_eq_true rfl, Nat.le_of_ble_eq_true rfl⟩) hw.2.2 (fun q _ h => Fr_As hw Fr_hi q h) (Fr_As hw Fr_hi) (fun q _ h => Fr_As hw Fr_hi q h) (fun E ce q9 k t H1 locs1 ht _ hp hB _ _ hS hce hcv hcl => ?_) (fun r A1 t H1 locs1 ht _ hp hB _ _ hS => ?_)
  · have hw := wdX hw Fr_hi ht hB.2 hS
    obtain ⟨rfl, -⟩ := hB
    rw [onx_r hp] at hm
    by_cases h1 : k = 1
    · subst h1
      rw [if_pos rfl] at hm
      refine ct1 hts hown hR hex (by decide) (by decide) k_cl_RL_19 hce hcv hcl ?_
      refine lv_astore_n (lv' := [(3, .ref q9), (0, .ref (A 0)), (1, .int x1), (2, .ref (A 6))]) hx hb dL_recover_12 rfl hl (by decide) rfl (fun ls hl => ?_)
      refine lv_iconst (v := 1) hx hb dL_recover_13 rfl ?_
      exact eWI hx hb hr hlocks hw (Option.some.inj hm).symm (fun c h => ⟨rfl, h⟩) (Nat.le_of_ble_eq_true rfl) (Nat.le_of_ble_eq_true rfl) dL_recover_14
    rw [if_neg h1] at hm
    by_cases h2 : k = 2
    · subst h2
      rw [if_pos rfl] at hm
      refine ct12 hts hown hR hN hex (by decide) (by decide) (by decide) k_cl_RL_19 k_cl_RL_13 hce hcv hcl ?_
      refine lv_astore_n (lv' := [(3, .ref q9), (0, .ref (A 0)), (1, .int x1), (2, .ref (A 6))]) hx hb dL_recover_15 rfl hl (by decide) rfl (fun ls hl => ?_)
      refine lv_iconst (v := 2) hx hb dL_recover_16 rfl ?_
      exact eWI hx hb hr hlocks hw (Option.some.inj hm).symm (fun c h => ⟨rfl, h⟩) (Nat.le_of_ble_eq_true rfl) (Nat.le_of_ble_eq_true rfl) dL_recover_17
    rw [if_neg h2] at hm
    cases hm
  · obtain ⟨G', M', hz, hAA⟩ := hp
    obtain ⟨r', G2, M2, hz2, hB⟩ := hB
    cases hz.symm.trans hz2
    rw [onx_l hz] at hm
    have hw := wdX hw Fr_hi ht hB hS
    rw [← (hAA 6 (sm_in (by omega))).1]
    refine lv_i2l hx hb dL_recover_7 rfl ?_
    refine pL hx hb hK hw dL_recover_8 (fun H locs hw => ?_)
    refine lv_goto (tgt := 18) hx hb dL_recover_9 (by decide) ?_
    refine lv_iconst (v := 0) hx hb dL_recover_18 rfl ?_
    exact eWI hx hb hr hlocks hw (Option.some.inj hm).symm (fun c hc => hAA c hc) (Nat.le_of_ble_eq_true rfl) (Nat.le_of_ble_eq_true rfl) dL_recover_19
set_option maxHeartbeats 4000000 in
set_option maxRecDepth 100000 in
theorem c_L_repair (l : Launch) {D : va_G} {cy : Nat → ClassId} {A : Nat → Nat} {G : Nat → Bool} {M : Mem} {sz : Nat} {x1 : Int32} (hfl : l.stackTraces = false) {w : Int32 × (Nat → Bool) × Mem} (hm : m_L_repair x1 G M = some w) : vx_Met l yL_repair (wmW yL_repair cL_repair 4 (some .int) [(0, 9, 12, 19), (0, 9, 15, 13)]) ({ frames := 8, cells := 50, slots := 3520, locals := 194 } : Room) (va_Pc [.ref (A 0), .int x1, .ref (A 6)] (PrN D cy A G M sz)) (WQ D cy A G (Fr A G sz) w) (Xx D cy A G (Fr A G sz) M (fun _ => False)) 50 3520 (Fr A G sz) := by
  refine ofXH (Qc := fun sz => WQ D cy A G (Fr A G sz) w) (XC := fun sz => Xx D cy A G (Fr A G sz) M (fun _ => False)) (by decide +kernel) (Nat.le_of_ble_eq_true rfl) ?_
  intro p e s m below meth c hx hb hr hts hown hlocks hml hex hK hR hT hN hw ls hl
  have hl : lv_has ls 4 [(0, .ref (A 0)), (1, .int x1), (2, .ref (A 6))] := hl
  unfold m_L_repair at hm
  obtain ⟨z, e1, hm⟩ := Option.bind_eq_some_iff.mp hm
  refine lv_aload_n hx hb dL_repair_0 rfl (lv_at hl 2 rfl) ?_
  refine lv_iconst (v := 0) hx hb dL_repair_1 rfl ?_
  refine lv_aload_n hx hb dL_repair_2 rfl (lv_at hl 0 rfl) ?_
  refine lv_iload_n hx hb dL_repair_3 rfl (lv_at hl 1 rfl) ?_
  refine vx_calli (xV hx hb hml hts hown hK hR hT Fr_hi hw (c_X5_repair l hfl (⟨rfl, sm_in (by omega)⟩ : TT G 4 0) e1) (⟨rfl, sm_in (by omega)⟩ : TT G 4 0) (by decide) rfl (mkV 1 hts k_ml_RL_55 k_im_yX5_repair k_se_yX5_repair k_in_RX5 k_co_yX5_repair hd_X5_repair ⟨Nat.le_of_ble_eq_true rfl, Nat.le_of_ble_eq_true rfl⟩) rfl hl.1 rfl (Nat.le_of_ble_eq_true rfl) dL_repair_4 ⟨Nat.le_of_ble_eq_true rfl, Nat.le_of_ble_eq_true rfl⟩) hw.2.2 (fun q _ h => Fr_As hw Fr_hi q h) (Fr_As hw Fr_hi) (fun q _ h => Fr_As hw Fr_hi q h) (fun E ce q9 k t H1 locs1 ht _ hp hB _ _ hS hce hcv hcl => ?_) (fun r A1 t H1 locs1 ht _ hp hB _ _ hS => ?_)
  · have hw := wdX hw Fr_hi ht hB.2 hS
    obtain ⟨rfl, -⟩ := hB
    rw [onx_r hp] at hm
    by_cases h1 : k = 1
    · subst h1
      rw [if_pos rfl] at hm
      refine ct1 hts hown hR hex (by decide) (by decide) k_cl_RL_19 hce hcv hcl ?_
      refine lv_astore_n (lv' := [(3, .ref q9), (0, .ref (A 0)), (1, .int x1), (2, .ref (A 6))]) hx hb dL_repair_12 rfl hl (by decide) rfl (fun ls hl => ?_)
      refine lv_iconst (v := 1) hx hb dL_repair_13 rfl ?_
      exact eWI hx hb hr hlocks hw (Option.some.inj hm).symm (fun c h => ⟨rfl, h⟩) (Nat.le_of_ble_eq_true rfl) (Nat.le_of_ble_eq_true rfl) dL_repair_14
    rw [if_neg h1] at hm
    by_cases h2 : k = 2
    · subst h2
      rw [if_pos rfl] at hm
      refine ct12 hts hown hR hN hex (by decide) (by decide) (by decide) k_cl_RL_19 k_cl_RL_13 hce hcv hcl ?_
      refine lv_astore_n (lv' := [(3, .ref q9), (0, .ref (A 0)), (1, .int x1), (2, .ref (A 6))]) hx hb dL_repair_15 rfl hl (by decide) rfl (fun ls hl => ?_)
      refine lv_iconst (v := 2) hx hb dL_repair_16 rfl ?_
      exact eWI hx hb hr hlocks hw (Option.some.inj hm).symm (fun c h => ⟨rfl, h⟩) (Nat.le_of_ble_eq_true rfl) (Nat.le_of_ble_eq_true rfl) dL_repair_17
    rw [if_neg h2] at hm
    cases hm
  · obtain ⟨G', M', hz, hAA⟩ := hp
    obtain ⟨r', G2, M2, hz2, hB⟩ := hB
    cases hz.symm.trans hz2
    rw [onx_l hz] at hm
    have hw := wdX hw Fr_hi ht hB hS
    rw [← (hAA 6 (sm_in (by omega))).1]
    refine lv_i2l hx hb dL_repair_7 rfl ?_
    refine pL hx hb hK hw dL_repair_8 (fun H locs hw => ?_)
    refine lv_goto (tgt := 18) hx hb dL_repair_9 (by decide) ?_
    refine lv_iconst (v := 0) hx hb dL_repair_18 rfl ?_
    exact eWI hx hb hr hlocks hw (Option.some.inj hm).symm (fun c hc => hAA c hc) (Nat.le_of_ble_eq_true rfl) (Nat.le_of_ble_eq_true rfl) dL_repair_19
set_option maxHeartbeats 4000000 in
set_option maxRecDepth 100000 in
theorem c_L_read (l : Launch) {D : va_G} {cy : Nat → ClassId} {A : Nat → Nat} {G : Nat → Bool} {M : Mem} {sz : Nat} {x1 : Int32} {x2 : Int32} (hfl : l.stackTraces = false) {w : Int32 × (Nat → Bool) × Mem} (hm : m_L_read x1 x2 G M = some w) : vx_Met l yL_read (wmW yL_read cL_read 5 (some .int) [(0, 10, 13, 19), (0, 10, 17, 13)]) ({ frames := 8, cells := 4, slots := 24, locals := 136 } : Room) (va_Pc [.ref (A 0), .int x1, .int x2, .ref (A 6)] (PrN D cy A G M sz)) (WQ D cy A G (Fr A G sz) w) (Xx D cy A G (Fr A G sz) M (fun _ => False)) 4 24 (Fr A G sz) := by
  refine ofXH (Qc := fun sz => WQ D cy A G (Fr A G sz) w) (XC := fun sz => Xx D cy A G (Fr A G sz) M (fun _ => False)) (by decide +kernel) (Nat.le_of_ble_eq_true rfl) ?_
  intro p e s m below meth c hx hb hr hts hown hlocks hml hex hK hR hT hN hw ls hl
  have hl : lv_has ls 5 [(0, .ref (A 0)), (1, .int x1), (2, .int x2), (3, .ref (A 6))] := hl
  unfold m_L_read at hm
  obtain ⟨z, e1, hm⟩ := Option.bind_eq_some_iff.mp hm
  refine lv_aload_n hx hb dL_read_0 rfl (lv_at hl 3 rfl) ?_
  refine lv_iconst (v := 0) hx hb dL_read_1 rfl ?_
  refine lv_aload_n hx hb dL_read_2 rfl (lv_at hl 0 rfl) ?_
  refine lv_iload_n hx hb dL_read_3 rfl (lv_at hl 1 rfl) ?_
  refine lv_iload_n hx hb dL_read_4 rfl (lv_at hl 2 rfl) ?_
  refine vx_calli (xV hx hb hml hts hown hK hR hT Fr_hi hw (c_X5_read l hfl (⟨rfl, sm_in (by omega)⟩ : TT G 4 0) e1) (⟨rfl, sm_in (by omega)⟩ : TT G 4 0) (by decide) rfl (mkV 2 hts k_ml_RL_58 k_im_yX5_read k_se_yX5_read k_in_RX5 k_co_yX5_read hd_X5_read ⟨Nat.le_of_ble_eq_true rfl, Nat.le_of_ble_eq_true rfl⟩) rfl hl.1 rfl (Nat.le_of_ble_eq_true rfl) dL_read_5 ⟨Nat.le_of_ble_eq_true rfl, Nat.le_of_ble_eq_true rfl⟩) hw.2.2 (fun q _ h => Fr_As hw Fr_hi q h) (Fr_As hw Fr_hi) (fun q _ h => Fr_As hw Fr_hi q h) (fun E ce q9 k t H1 locs1 ht _ hp hB _ _ hS hce hcv hcl => ?_) (fun r u t H1 locs1 ht _ hp hB _ _ hS => ?_)
  · have hw := wdX hw Fr_hi ht hB.2 hS
    obtain ⟨rfl, -⟩ := hB
    rw [onx_r hp] at hm
    by_cases h1 : k = 1
    · subst h1
      rw [if_pos rfl] at hm
      refine ct1 hts hown hR hex (by decide) (by decide) k_cl_RL_19 hce hcv hcl ?_
      refine lv_astore (lv' := [(4, .ref q9), (0, .ref (A 0)), (1, .int x1), (2, .int x2), (3, .ref (A 6))]) hx hb dL_read_13 hl (by decide) rfl (fun ls hl => ?_)
      refine lv_iconst (v := 1) hx hb dL_read_15 rfl ?_
      exact eWI hx hb hr hlocks hw (Option.some.inj hm).symm (fun c h => ⟨rfl, h⟩) (Nat.le_of_ble_eq_true rfl) (Nat.le_of_ble_eq_true rfl) dL_read_16
    rw [if_neg h1] at hm
    by_cases h2 : k = 2
    · subst h2
      rw [if_pos rfl] at hm
      refine ct12 hts hown hR hN hex (by decide) (by decide) (by decide) k_cl_RL_19 k_cl_RL_13 hce hcv hcl ?_
      refine lv_astore (lv' := [(4, .ref q9), (0, .ref (A 0)), (1, .int x1), (2, .int x2), (3, .ref (A 6))]) hx hb dL_read_17 hl (by decide) rfl (fun ls hl => ?_)
      refine lv_iconst (v := 2) hx hb dL_read_19 rfl ?_
      exact eWI hx hb hr hlocks hw (Option.some.inj hm).symm (fun c h => ⟨rfl, h⟩) (Nat.le_of_ble_eq_true rfl) (Nat.le_of_ble_eq_true rfl) dL_read_20
    rw [if_neg h2] at hm
    cases hm
  · have hw := wdX hw Fr_hi ht hB hS
    rw [onx_l hp] at hm
    refine lv_i2l hx hb dL_read_8 rfl ?_
    refine pL hx hb hK hw dL_read_9 (fun H locs hw => ?_)
    refine lv_goto (tgt := 21) hx hb dL_read_10 (by decide) ?_
    refine lv_iconst (v := 0) hx hb dL_read_21 rfl ?_
    exact eWI hx hb hr hlocks hw (Option.some.inj hm).symm (fun c h => ⟨rfl, h⟩) (Nat.le_of_ble_eq_true rfl) (Nat.le_of_ble_eq_true rfl) dL_read_22
set_option maxHeartbeats 4000000 in
set_option maxRecDepth 100000 in
theorem c_L_state (l : Launch) {D : va_G} {cy : Nat → ClassId} {A : Nat → Nat} {G : Nat → Bool} {M : Mem} {sz : Nat} {x1 : Int32} (hfl : l.stackTraces = false) {w : Int32 × (Nat → Bool) × Mem} (hm : m_L_state x1 G M = some w) : vx_Met l yL_state (wmW yL_state cL_state 4 (some .int) [(0, 9, 12, 19)]) ({ frames := 8, cells := 4, slots := 24, locals := 133 } : Room) (va_Pc [.ref (A 0), .int x1, .ref (A 6)] (PrN D cy A G M sz)) (WQ D cy A G (Fr A G sz) w) (Xx D cy A G (Fr A G sz) M (fun _ => False)) 4 24 (Fr A G sz) := by
  refine ofXH (Qc := fun sz => WQ D cy A G (Fr A G sz) w) (XC := fun sz => Xx D cy A G (Fr A G sz) M (fun _ => False)) (by decide +kernel) (Nat.le_of_ble_eq_true rfl) ?_
  intro p e s m below meth c hx hb hr hts hown hlocks hml hex hK hR hT hN hw ls hl
  have hl : lv_has ls 4 [(0, .ref (A 0)), (1, .int x1), (2, .ref (A 6))] := hl
  unfold m_L_state at hm
  obtain ⟨z, e1, hm⟩ := Option.bind_eq_some_iff.mp hm
  refine lv_aload_n hx hb dL_state_0 rfl (lv_at hl 2 rfl) ?_
  refine lv_iconst (v := 0) hx hb dL_state_1 rfl ?_
  refine lv_aload_n hx hb dL_state_2 rfl (lv_at hl 0 rfl) ?_
  refine lv_iload_n hx hb dL_state_3 rfl (lv_at hl 1 rfl) ?_
  refine vx_calli (xV hx hb hml hts hown hK hR hT Fr_hi hw (c_X5_state l hfl (⟨rfl, sm_in (by omega)⟩ : TT G 4 0) e1) (⟨rfl, sm_in (by omega)⟩ : TT G 4 0) (by decide) rfl (mkV 1 hts k_ml_RL_61 k_im_yX5_state k_se_yX5_state k_in_RX5 k_co_yX5_state hd_X5_state ⟨Nat.le_of_ble_eq_true rfl, Nat.le_of_ble_eq_true rfl⟩) rfl hl.1 rfl (Nat.le_of_ble_eq_true rfl) dL_state_4 ⟨Nat.le_of_ble_eq_true rfl, Nat.le_of_ble_eq_true rfl⟩) hw.2.2 (fun q _ h => Fr_As hw Fr_hi q h) (Fr_As hw Fr_hi) (fun q _ h => Fr_As hw Fr_hi q h) (fun E ce q9 k t H1 locs1 ht _ hp hB _ _ hS hce hcv hcl => ?_) (fun r u t H1 locs1 ht _ hp hB _ _ hS => ?_)
  · have hw := wdX hw Fr_hi ht hB.2 hS
    obtain ⟨rfl, -⟩ := hB
    rw [onx_r hp] at hm
    by_cases h1 : k = 1
    · subst h1
      rw [if_pos rfl] at hm
      refine ct1 hts hown hR hex (by decide) (by decide) k_cl_RL_19 hce hcv hcl ?_
      refine lv_astore_n (lv' := [(3, .ref q9), (0, .ref (A 0)), (1, .int x1), (2, .ref (A 6))]) hx hb dL_state_12 rfl hl (by decide) rfl (fun ls hl => ?_)
      refine lv_iconst (v := 1) hx hb dL_state_13 rfl ?_
      exact eWI hx hb hr hlocks hw (Option.some.inj hm).symm (fun c h => ⟨rfl, h⟩) (Nat.le_of_ble_eq_true rfl) (Nat.le_of_ble_eq_true rfl) dL_state_14
    rw [if_neg h1] at hm
    cases hm
  · have hw := wdX hw Fr_hi ht hB hS
    rw [onx_l hp] at hm
    refine lv_i2l hx hb dL_state_7 rfl ?_
    refine pL hx hb hK hw dL_state_8 (fun H locs hw => ?_)
    refine lv_goto (tgt := 15) hx hb dL_state_9 (by decide) ?_
    refine lv_iconst (v := 0) hx hb dL_state_15 rfl ?_
    exact eWI hx hb hr hlocks hw (Option.some.inj hm).symm (fun c h => ⟨rfl, h⟩) (Nat.le_of_ble_eq_true rfl) (Nat.le_of_ble_eq_true rfl) dL_state_16
set_option maxHeartbeats 4000000 in
set_option maxRecDepth 100000 in
theorem c_L_lastReadable (l : Launch) {D : va_G} {cy : Nat → ClassId} {A : Nat → Nat} {G : Nat → Bool} {M : Mem} {sz : Nat} {x1 : Int32} (hfl : l.stackTraces = false) {w : Int32 × (Nat → Bool) × Mem} (hm : m_L_lastReadable x1 G M = some w) : vx_Met l yL_lastReadable (wmW yL_lastReadable cL_lastReadable 4 (some .int) [(0, 9, 12, 19)]) ({ frames := 8, cells := 4, slots := 24, locals := 133 } : Room) (va_Pc [.ref (A 0), .int x1, .ref (A 6)] (PrN D cy A G M sz)) (WQ D cy A G (Fr A G sz) w) (Xx D cy A G (Fr A G sz) M (fun _ => False)) 4 24 (Fr A G sz) := by
  refine ofXH (Qc := fun sz => WQ D cy A G (Fr A G sz) w) (XC := fun sz => Xx D cy A G (Fr A G sz) M (fun _ => False)) (by decide +kernel) (Nat.le_of_ble_eq_true rfl) ?_
  intro p e s m below meth c hx hb hr hts hown hlocks hml hex hK hR hT hN hw ls hl
  have hl : lv_has ls 4 [(0, .ref (A 0)), (1, .int x1), (2, .ref (A 6))] := hl
  unfold m_L_lastReadable at hm
  obtain ⟨z, e1, hm⟩ := Option.bind_eq_some_iff.mp hm
  refine lv_aload_n hx hb dL_lastReadable_0 rfl (lv_at hl 2 rfl) ?_
  refine lv_iconst (v := 0) hx hb dL_lastReadable_1 rfl ?_
  refine lv_aload_n hx hb dL_lastReadable_2 rfl (lv_at hl 0 rfl) ?_
  refine lv_iload_n hx hb dL_lastReadable_3 rfl (lv_at hl 1 rfl) ?_
  refine vx_calli (xV hx hb hml hts hown hK hR hT Fr_hi hw (c_X5_lastReadable l hfl (⟨rfl, sm_in (by omega)⟩ : TT G 4 0) e1) (⟨rfl, sm_in (by omega)⟩ : TT G 4 0) (by decide) rfl (mkV 1 hts k_ml_RL_64 k_im_yX5_lastReadable k_se_yX5_lastReadable k_in_RX5 k_co_yX5_lastReadable hd_X5_lastReadable ⟨Nat.le_of_ble_eq_true rfl, Nat.le_of_ble_eq_true rfl⟩) rfl hl.1 rfl (Nat.le_of_ble_eq_true rfl) dL_lastReadable_4 ⟨Nat.le_of_ble_eq_true rfl, Nat.le_of_ble_eq_true rfl⟩) hw.2.2 (fun q _ h => Fr_As hw Fr_hi q h) (Fr_As hw Fr_hi) (fun q _ h => Fr_As hw Fr_hi q h) (fun E ce q9 k t H1 locs1 ht _ hp hB _ _ hS hce hcv hcl => ?_) (fun r u t H1 locs1 ht _ hp hB _ _ hS => ?_)
  · have hw := wdX hw Fr_hi ht hB.2 hS
    obtain ⟨rfl, -⟩ := hB
    rw [onx_r hp] at hm
    by_cases h1 : k = 1
    · subst h1
      rw [if_pos rfl] at hm
      refine ct1 hts hown hR hex (by decide) (by decide) k_cl_RL_19 hce hcv hcl ?_
      refine lv_astore_n (lv' := [(3, .ref q9), (0, .ref (A 0)), (1, .int x1), (2, .ref (A 6))]) hx hb dL_lastReadable_12 rfl hl (by decide) rfl (fun ls hl => ?_)
      refine lv_iconst (v := 1) hx hb dL_lastReadable_13 rfl ?_
      exact eWI hx hb hr hlocks hw (Option.some.inj hm).symm (fun c h => ⟨rfl, h⟩) (Nat.le_of_ble_eq_true rfl) (Nat.le_of_ble_eq_true rfl) dL_lastReadable_14
    rw [if_neg h1] at hm
    cases hm
  · have hw := wdX hw Fr_hi ht hB hS
    rw [onx_l hp] at hm
    refine lv_i2l hx hb dL_lastReadable_7 rfl ?_
    refine pL hx hb hK hw dL_lastReadable_8 (fun H locs hw => ?_)
    refine lv_goto (tgt := 15) hx hb dL_lastReadable_9 (by decide) ?_
    refine lv_iconst (v := 0) hx hb dL_lastReadable_15 rfl ?_
    exact eWI hx hb hr hlocks hw (Option.some.inj hm).symm (fun c h => ⟨rfl, h⟩) (Nat.le_of_ble_eq_true rfl) (Nat.le_of_ble_eq_true rfl) dL_lastReadable_16
set_option maxHeartbeats 4000000 in
set_option maxRecDepth 100000 in
theorem c_L_appended (l : Launch) {D : va_G} {cy : Nat → ClassId} {A : Nat → Nat} {G : Nat → Bool} {M : Mem} {sz : Nat} {x1 : Int32} (hfl : l.stackTraces = false) {w : Int32 × (Nat → Bool) × Mem} (hm : m_L_appended x1 G M = some w) : vx_Met l yL_appended (wmW yL_appended cL_appended 4 (some .int) [(0, 9, 12, 19)]) ({ frames := 8, cells := 4, slots := 24, locals := 133 } : Room) (va_Pc [.ref (A 0), .int x1, .ref (A 6)] (PrN D cy A G M sz)) (WQ D cy A G (Fr A G sz) w) (Xx D cy A G (Fr A G sz) M (fun _ => False)) 4 24 (Fr A G sz) := by
  refine ofXH (Qc := fun sz => WQ D cy A G (Fr A G sz) w) (XC := fun sz => Xx D cy A G (Fr A G sz) M (fun _ => False)) (by decide +kernel) (Nat.le_of_ble_eq_true rfl) ?_
  intro p e s m below meth c hx hb hr hts hown hlocks hml hex hK hR hT hN hw ls hl
  have hl : lv_has ls 4 [(0, .ref (A 0)), (1, .int x1), (2, .ref (A 6))] := hl
  unfold m_L_appended at hm
  obtain ⟨z, e1, hm⟩ := Option.bind_eq_some_iff.mp hm
  refine lv_aload_n hx hb dL_appended_0 rfl (lv_at hl 2 rfl) ?_
  refine lv_iconst (v := 0) hx hb dL_appended_1 rfl ?_
  refine lv_aload_n hx hb dL_appended_2 rfl (lv_at hl 0 rfl) ?_
  refine lv_iload_n hx hb dL_appended_3 rfl (lv_at hl 1 rfl) ?_
  refine vx_calli (xV hx hb hml hts hown hK hR hT Fr_hi hw (c_X5_appended l hfl (⟨rfl, sm_in (by omega)⟩ : TT G 4 0) e1) (⟨rfl, sm_in (by omega)⟩ : TT G 4 0) (by decide) rfl (mkV 1 hts k_ml_RL_67 k_im_yX5_appended k_se_yX5_appended k_in_RX5 k_co_yX5_appended hd_X5_appended ⟨Nat.le_of_ble_eq_true rfl, Nat.le_of_ble_eq_true rfl⟩) rfl hl.1 rfl (Nat.le_of_ble_eq_true rfl) dL_appended_4 ⟨Nat.le_of_ble_eq_true rfl, Nat.le_of_ble_eq_true rfl⟩) hw.2.2 (fun q _ h => Fr_As hw Fr_hi q h) (Fr_As hw Fr_hi) (fun q _ h => Fr_As hw Fr_hi q h) (fun E ce q9 k t H1 locs1 ht _ hp hB _ _ hS hce hcv hcl => ?_) (fun r u t H1 locs1 ht _ hp hB _ _ hS => ?_)
  · have hw := wdX hw Fr_hi ht hB.2 hS
    obtain ⟨rfl, -⟩ := hB
    rw [onx_r hp] at hm
    by_cases h1 : k = 1
    · subst h1
      rw [if_pos rfl] at hm
      refine ct1 hts hown hR hex (by decide) (by decide) k_cl_RL_19 hce hcv hcl ?_
      refine lv_astore_n (lv' := [(3, .ref q9), (0, .ref (A 0)), (1, .int x1), (2, .ref (A 6))]) hx hb dL_appended_12 rfl hl (by decide) rfl (fun ls hl => ?_)
      refine lv_iconst (v := 1) hx hb dL_appended_13 rfl ?_
      exact eWI hx hb hr hlocks hw (Option.some.inj hm).symm (fun c h => ⟨rfl, h⟩) (Nat.le_of_ble_eq_true rfl) (Nat.le_of_ble_eq_true rfl) dL_appended_14
    rw [if_neg h1] at hm
    cases hm
  · have hw := wdX hw Fr_hi ht hB hS
    rw [onx_l hp] at hm
    refine lv_i2l hx hb dL_appended_7 rfl ?_
    refine pL hx hb hK hw dL_appended_8 (fun H locs hw => ?_)
    refine lv_goto (tgt := 15) hx hb dL_appended_9 (by decide) ?_
    refine lv_iconst (v := 0) hx hb dL_appended_15 rfl ?_
    exact eWI hx hb hr hlocks hw (Option.some.inj hm).symm (fun c h => ⟨rfl, h⟩) (Nat.le_of_ble_eq_true rfl) (Nat.le_of_ble_eq_true rfl) dL_appended_16
set_option maxHeartbeats 4000000 in
set_option maxRecDepth 100000 in
theorem c_L_acknowledgements (l : Launch) {D : va_G} {cy : Nat → ClassId} {A : Nat → Nat} {G : Nat → Bool} {M : Mem} {sz : Nat} {x1 : Int32} {x2 : Int32} (hfl : l.stackTraces = false) {w : Int32 × (Nat → Bool) × Mem} (hm : m_L_acknowledgements x1 x2 G M = some w) : vx_Met l yL_acknowledgements (wmW yL_acknowledgements cL_acknowledgements 5 (some .int) [(0, 10, 13, 19)]) ({ frames := 8, cells := 4, slots := 24, locals := 135 } : Room) (va_Pc [.ref (A 0), .int x1, .int x2, .ref (A 6)] (PrN D cy A G M sz)) (WQ D cy A G (Fr A G sz) w) (Xx D cy A G (Fr A G sz) M (fun _ => False)) 4 24 (Fr A G sz) := by
  refine ofXH (Qc := fun sz => WQ D cy A G (Fr A G sz) w) (XC := fun sz => Xx D cy A G (Fr A G sz) M (fun _ => False)) (by decide +kernel) (Nat.le_of_ble_eq_true rfl) ?_
  intro p e s m below meth c hx hb hr hts hown hlocks hml hex hK hR hT hN hw ls hl
  have hl : lv_has ls 5 [(0, .ref (A 0)), (1, .int x1), (2, .int x2), (3, .ref (A 6))] := hl
  unfold m_L_acknowledgements at hm
  obtain ⟨z, e1, hm⟩ := Option.bind_eq_some_iff.mp hm
  refine lv_aload_n hx hb dL_acknowledgements_0 rfl (lv_at hl 3 rfl) ?_
  refine lv_iconst (v := 0) hx hb dL_acknowledgements_1 rfl ?_
  refine lv_aload_n hx hb dL_acknowledgements_2 rfl (lv_at hl 0 rfl) ?_
  refine lv_iload_n hx hb dL_acknowledgements_3 rfl (lv_at hl 1 rfl) ?_
  refine lv_iload_n hx hb dL_acknowledgements_4 rfl (lv_at hl 2 rfl) ?_
  refine vx_calli (xV hx hb hml hts hown hK hR hT Fr_hi hw (c_X5_acknowledgements l hfl (⟨rfl, sm_in (by omega)⟩ : TT G 4 0) e1) (⟨rfl, sm_in (by omega)⟩ : TT G 4 0) (by decide) rfl (mkV 2 hts k_ml_RL_70 k_im_yX5_acknowledgements k_se_yX5_acknowledgements k_in_RX5 k_co_yX5_acknowledgements hd_X5_acknowledgements ⟨Nat.le_of_ble_eq_true rfl, Nat.le_of_ble_eq_true rfl⟩) rfl hl.1 rfl (Nat.le_of_ble_eq_true rfl) dL_acknowledgements_5 ⟨Nat.le_of_ble_eq_true rfl, Nat.le_of_ble_eq_true rfl⟩) hw.2.2 (fun q _ h => Fr_As hw Fr_hi q h) (Fr_As hw Fr_hi) (fun q _ h => Fr_As hw Fr_hi q h) (fun E ce q9 k t H1 locs1 ht _ hp hB _ _ hS hce hcv hcl => ?_) (fun r u t H1 locs1 ht _ hp hB _ _ hS => ?_)
  · have hw := wdX hw Fr_hi ht hB.2 hS
    obtain ⟨rfl, -⟩ := hB
    rw [onx_r hp] at hm
    by_cases h1 : k = 1
    · subst h1
      rw [if_pos rfl] at hm
      refine ct1 hts hown hR hex (by decide) (by decide) k_cl_RL_19 hce hcv hcl ?_
      refine lv_astore (lv' := [(4, .ref q9), (0, .ref (A 0)), (1, .int x1), (2, .int x2), (3, .ref (A 6))]) hx hb dL_acknowledgements_13 hl (by decide) rfl (fun ls hl => ?_)
      refine lv_iconst (v := 1) hx hb dL_acknowledgements_15 rfl ?_
      exact eWI hx hb hr hlocks hw (Option.some.inj hm).symm (fun c h => ⟨rfl, h⟩) (Nat.le_of_ble_eq_true rfl) (Nat.le_of_ble_eq_true rfl) dL_acknowledgements_16
    rw [if_neg h1] at hm
    cases hm
  · have hw := wdX hw Fr_hi ht hB hS
    rw [onx_l hp] at hm
    refine lv_i2l hx hb dL_acknowledgements_8 rfl ?_
    refine pL hx hb hK hw dL_acknowledgements_9 (fun H locs hw => ?_)
    refine lv_goto (tgt := 17) hx hb dL_acknowledgements_10 (by decide) ?_
    refine lv_iconst (v := 0) hx hb dL_acknowledgements_17 rfl ?_
    exact eWI hx hb hr hlocks hw (Option.some.inj hm).symm (fun c h => ⟨rfl, h⟩) (Nat.le_of_ble_eq_true rfl) (Nat.le_of_ble_eq_true rfl) dL_acknowledgements_18
set_option maxHeartbeats 4000000 in
set_option maxRecDepth 100000 in
theorem c_L_holders (l : Launch) {D : va_G} {cy : Nat → ClassId} {A : Nat → Nat} {G : Nat → Bool} {M : Mem} {sz : Nat} {x1 : Int32} {x2 : Int32} (hfl : l.stackTraces = false) {w : Int32 × (Nat → Bool) × Mem} (hm : m_L_holders x1 x2 G M = some w) : vx_Met l yL_holders (wmW yL_holders cL_holders 5 (some .int) [(0, 10, 13, 19)]) ({ frames := 8, cells := 4, slots := 24, locals := 135 } : Room) (va_Pc [.ref (A 0), .int x1, .int x2, .ref (A 6)] (PrN D cy A G M sz)) (WQ D cy A G (Fr A G sz) w) (Xx D cy A G (Fr A G sz) M (fun _ => False)) 4 24 (Fr A G sz) := by
  refine ofXH (Qc := fun sz => WQ D cy A G (Fr A G sz) w) (XC := fun sz => Xx D cy A G (Fr A G sz) M (fun _ => False)) (by decide +kernel) (Nat.le_of_ble_eq_true rfl) ?_
  intro p e s m below meth c hx hb hr hts hown hlocks hml hex hK hR hT hN hw ls hl
  have hl : lv_has ls 5 [(0, .ref (A 0)), (1, .int x1), (2, .int x2), (3, .ref (A 6))] := hl
  unfold m_L_holders at hm
  obtain ⟨z, e1, hm⟩ := Option.bind_eq_some_iff.mp hm
  refine lv_aload_n hx hb dL_holders_0 rfl (lv_at hl 3 rfl) ?_
  refine lv_iconst (v := 0) hx hb dL_holders_1 rfl ?_
  refine lv_aload_n hx hb dL_holders_2 rfl (lv_at hl 0 rfl) ?_
  refine lv_iload_n hx hb dL_holders_3 rfl (lv_at hl 1 rfl) ?_
  refine lv_iload_n hx hb dL_holders_4 rfl (lv_at hl 2 rfl) ?_
  refine vx_calli (xV hx hb hml hts hown hK hR hT Fr_hi hw (c_X5_holders l hfl (⟨rfl, sm_in (by omega)⟩ : TT G 4 0) e1) (⟨rfl, sm_in (by omega)⟩ : TT G 4 0) (by decide) rfl (mkV 2 hts k_ml_RL_73 k_im_yX5_holders k_se_yX5_holders k_in_RX5 k_co_yX5_holders hd_X5_holders ⟨Nat.le_of_ble_eq_true rfl, Nat.le_of_ble_eq_true rfl⟩) rfl hl.1 rfl (Nat.le_of_ble_eq_true rfl) dL_holders_5 ⟨Nat.le_of_ble_eq_true rfl, Nat.le_of_ble_eq_true rfl⟩) hw.2.2 (fun q _ h => Fr_As hw Fr_hi q h) (Fr_As hw Fr_hi) (fun q _ h => Fr_As hw Fr_hi q h) (fun E ce q9 k t H1 locs1 ht _ hp hB _ _ hS hce hcv hcl => ?_) (fun r u t H1 locs1 ht _ hp hB _ _ hS => ?_)
  · have hw := wdX hw Fr_hi ht hB.2 hS
    obtain ⟨rfl, -⟩ := hB
    rw [onx_r hp] at hm
    by_cases h1 : k = 1
    · subst h1
      rw [if_pos rfl] at hm
      refine ct1 hts hown hR hex (by decide) (by decide) k_cl_RL_19 hce hcv hcl ?_
      refine lv_astore (lv' := [(4, .ref q9), (0, .ref (A 0)), (1, .int x1), (2, .int x2), (3, .ref (A 6))]) hx hb dL_holders_13 hl (by decide) rfl (fun ls hl => ?_)
      refine lv_iconst (v := 1) hx hb dL_holders_15 rfl ?_
      exact eWI hx hb hr hlocks hw (Option.some.inj hm).symm (fun c h => ⟨rfl, h⟩) (Nat.le_of_ble_eq_true rfl) (Nat.le_of_ble_eq_true rfl) dL_holders_16
    rw [if_neg h1] at hm
    cases hm
  · have hw := wdX hw Fr_hi ht hB hS
    rw [onx_l hp] at hm
    refine lv_i2l hx hb dL_holders_8 rfl ?_
    refine pL hx hb hK hw dL_holders_9 (fun H locs hw => ?_)
    refine lv_goto (tgt := 17) hx hb dL_holders_10 (by decide) ?_
    refine lv_iconst (v := 0) hx hb dL_holders_17 rfl ?_
    exact eWI hx hb hr hlocks hw (Option.some.inj hm).symm (fun c h => ⟨rfl, h⟩) (Nat.le_of_ble_eq_true rfl) (Nat.le_of_ble_eq_true rfl) dL_holders_18
set_option maxHeartbeats 4000000 in
set_option maxRecDepth 100000 in
theorem c_L_fragmentCount (l : Launch) {D : va_G} {cy : Nat → ClassId} {A : Nat → Nat} {G : Nat → Bool} {M : Mem} {sz : Nat} {x1 : Int32} (hfl : l.stackTraces = false) {w : Int32 × (Nat → Bool) × Mem} (hm : m_L_fragmentCount x1 G M = some w) : vx_Met l yL_fragmentCount (wmW yL_fragmentCount cL_fragmentCount 4 (some .int) [(0, 9, 12, 19)]) ({ frames := 8, cells := 4, slots := 24, locals := 133 } : Room) (va_Pc [.ref (A 0), .int x1, .ref (A 6)] (PrN D cy A G M sz)) (WQ D cy A G (Fr A G sz) w) (Xx D cy A G (Fr A G sz) M (fun _ => False)) 4 24 (Fr A G sz) := by
  refine ofXH (Qc := fun sz => WQ D cy A G (Fr A G sz) w) (XC := fun sz => Xx D cy A G (Fr A G sz) M (fun _ => False)) (by decide +kernel) (Nat.le_of_ble_eq_true rfl) ?_
  intro p e s m below meth c hx hb hr hts hown hlocks hml hex hK hR hT hN hw ls hl
  have hl : lv_has ls 4 [(0, .ref (A 0)), (1, .int x1), (2, .ref (A 6))] := hl
  unfold m_L_fragmentCount at hm
  obtain ⟨z, e1, hm⟩ := Option.bind_eq_some_iff.mp hm
  refine lv_aload_n hx hb dL_fragmentCount_0 rfl (lv_at hl 2 rfl) ?_
  refine lv_iconst (v := 0) hx hb dL_fragmentCount_1 rfl ?_
  refine lv_aload_n hx hb dL_fragmentCount_2 rfl (lv_at hl 0 rfl) ?_
  refine lv_iload_n hx hb dL_fragmentCount_3 rfl (lv_at hl 1 rfl) ?_
  refine vx_calli (xV hx hb hml hts hown hK hR hT Fr_hi hw (c_X5_fragmentCount l hfl (⟨rfl, sm_in (by omega)⟩ : TT G 4 0) e1) (⟨rfl, sm_in (by omega)⟩ : TT G 4 0) (by decide) rfl (mkV 1 hts k_ml_RL_76 k_im_yX5_fragmentCount k_se_yX5_fragmentCount k_in_RX5 k_co_yX5_fragmentCount hd_X5_fragmentCount ⟨Nat.le_of_ble_eq_true rfl, Nat.le_of_ble_eq_true rfl⟩) rfl hl.1 rfl (Nat.le_of_ble_eq_true rfl) dL_fragmentCount_4 ⟨Nat.le_of_ble_eq_true rfl, Nat.le_of_ble_eq_true rfl⟩) hw.2.2 (fun q _ h => Fr_As hw Fr_hi q h) (Fr_As hw Fr_hi) (fun q _ h => Fr_As hw Fr_hi q h) (fun E ce q9 k t H1 locs1 ht _ hp hB _ _ hS hce hcv hcl => ?_) (fun r u t H1 locs1 ht _ hp hB _ _ hS => ?_)
  · have hw := wdX hw Fr_hi ht hB.2 hS
    obtain ⟨rfl, -⟩ := hB
    rw [onx_r hp] at hm
    by_cases h1 : k = 1
    · subst h1
      rw [if_pos rfl] at hm
      refine ct1 hts hown hR hex (by decide) (by decide) k_cl_RL_19 hce hcv hcl ?_
      refine lv_astore_n (lv' := [(3, .ref q9), (0, .ref (A 0)), (1, .int x1), (2, .ref (A 6))]) hx hb dL_fragmentCount_12 rfl hl (by decide) rfl (fun ls hl => ?_)
      refine lv_iconst (v := 1) hx hb dL_fragmentCount_13 rfl ?_
      exact eWI hx hb hr hlocks hw (Option.some.inj hm).symm (fun c h => ⟨rfl, h⟩) (Nat.le_of_ble_eq_true rfl) (Nat.le_of_ble_eq_true rfl) dL_fragmentCount_14
    rw [if_neg h1] at hm
    cases hm
  · have hw := wdX hw Fr_hi ht hB hS
    rw [onx_l hp] at hm
    refine lv_i2l hx hb dL_fragmentCount_7 rfl ?_
    refine pL hx hb hK hw dL_fragmentCount_8 (fun H locs hw => ?_)
    refine lv_goto (tgt := 15) hx hb dL_fragmentCount_9 (by decide) ?_
    refine lv_iconst (v := 0) hx hb dL_fragmentCount_15 rfl ?_
    exact eWI hx hb hr hlocks hw (Option.some.inj hm).symm (fun c h => ⟨rfl, h⟩) (Nat.le_of_ble_eq_true rfl) (Nat.le_of_ble_eq_true rfl) dL_fragmentCount_16
set_option maxHeartbeats 4000000 in
set_option maxRecDepth 100000 in
theorem c_L_firstEntry (l : Launch) {D : va_G} {cy : Nat → ClassId} {A : Nat → Nat} {G : Nat → Bool} {M : Mem} {sz : Nat} {x1 : Int32} {x2 : Int32} (hfl : l.stackTraces = false) {w : Int32 × (Nat → Bool) × Mem} (hm : m_L_firstEntry x1 x2 G M = some w) : vx_Met l yL_firstEntry (wmW yL_firstEntry cL_firstEntry 5 (some .int) [(0, 10, 13, 19)]) ({ frames := 8, cells := 4, slots := 24, locals := 135 } : Room) (va_Pc [.ref (A 0), .int x1, .int x2, .ref (A 6)] (PrN D cy A G M sz)) (WQ D cy A G (Fr A G sz) w) (Xx D cy A G (Fr A G sz) M (fun _ => False)) 4 24 (Fr A G sz) := by
  refine ofXH (Qc := fun sz => WQ D cy A G (Fr A G sz) w) (XC := fun sz => Xx D cy A G (Fr A G sz) M (fun _ => False)) (by decide +kernel) (Nat.le_of_ble_eq_true rfl) ?_
  intro p e s m below meth c hx hb hr hts hown hlocks hml hex hK hR hT hN hw ls hl
  have hl : lv_has ls 5 [(0, .ref (A 0)), (1, .int x1), (2, .int x2), (3, .ref (A 6))] := hl
  unfold m_L_firstEntry at hm
  obtain ⟨z, e1, hm⟩ := Option.bind_eq_some_iff.mp hm
  refine lv_aload_n hx hb dL_firstEntry_0 rfl (lv_at hl 3 rfl) ?_
  refine lv_iconst (v := 0) hx hb dL_firstEntry_1 rfl ?_
  refine lv_aload_n hx hb dL_firstEntry_2 rfl (lv_at hl 0 rfl) ?_
  refine lv_iload_n hx hb dL_firstEntry_3 rfl (lv_at hl 1 rfl) ?_
  refine lv_iload_n hx hb dL_firstEntry_4 rfl (lv_at hl 2 rfl) ?_
  refine vx_calli (xV hx hb hml hts hown hK hR hT Fr_hi hw (c_X5_firstEntry l hfl (⟨rfl, sm_in (by omega)⟩ : TT G 4 0) e1) (⟨rfl, sm_in (by omega)⟩ : TT G 4 0) (by decide) rfl (mkV 2 hts k_ml_RL_79 k_im_yX5_firstEntry k_se_yX5_firstEntry k_in_RX5 k_co_yX5_firstEntry hd_X5_firstEntry ⟨Nat.le_of_ble_eq_true rfl, Nat.le_of_ble_eq_true rfl⟩) rfl hl.1 rfl (Nat.le_of_ble_eq_true rfl) dL_firstEntry_5 ⟨Nat.le_of_ble_eq_true rfl, Nat.le_of_ble_eq_true rfl⟩) hw.2.2 (fun q _ h => Fr_As hw Fr_hi q h) (Fr_As hw Fr_hi) (fun q _ h => Fr_As hw Fr_hi q h) (fun E ce q9 k t H1 locs1 ht _ hp hB _ _ hS hce hcv hcl => ?_) (fun r u t H1 locs1 ht _ hp hB _ _ hS => ?_)
  · have hw := wdX hw Fr_hi ht hB.2 hS
    obtain ⟨rfl, -⟩ := hB
    rw [onx_r hp] at hm
    by_cases h1 : k = 1
    · subst h1
      rw [if_pos rfl] at hm
      refine ct1 hts hown hR hex (by decide) (by decide) k_cl_RL_19 hce hcv hcl ?_
      refine lv_astore (lv' := [(4, .ref q9), (0, .ref (A 0)), (1, .int x1), (2, .int x2), (3, .ref (A 6))]) hx hb dL_firstEntry_13 hl (by decide) rfl (fun ls hl => ?_)
      refine lv_iconst (v := 1) hx hb dL_firstEntry_15 rfl ?_
      exact eWI hx hb hr hlocks hw (Option.some.inj hm).symm (fun c h => ⟨rfl, h⟩) (Nat.le_of_ble_eq_true rfl) (Nat.le_of_ble_eq_true rfl) dL_firstEntry_16
    rw [if_neg h1] at hm
    cases hm
  · have hw := wdX hw Fr_hi ht hB hS
    rw [onx_l hp] at hm
    refine lv_i2l hx hb dL_firstEntry_8 rfl ?_
    refine pL hx hb hK hw dL_firstEntry_9 (fun H locs hw => ?_)
    refine lv_goto (tgt := 17) hx hb dL_firstEntry_10 (by decide) ?_
    refine lv_iconst (v := 0) hx hb dL_firstEntry_17 rfl ?_
    exact eWI hx hb hr hlocks hw (Option.some.inj hm).symm (fun c h => ⟨rfl, h⟩) (Nat.le_of_ble_eq_true rfl) (Nat.le_of_ble_eq_true rfl) dL_firstEntry_18
set_option maxHeartbeats 4000000 in
set_option maxRecDepth 100000 in
theorem c_L_member (l : Launch) {D : va_G} {cy : Nat → ClassId} {A : Nat → Nat} {G : Nat → Bool} {M : Mem} {sz : Nat} {x1 : Int32} {x2 : Int32} {x3 : Int32} (hfl : l.stackTraces = false) {w : Int32 × (Nat → Bool) × Mem} (hm : m_L_member x1 x2 x3 G M = some w) : vx_Met l yL_member (wmW yL_member cL_member 6 (some .int) [(0, 12, 15, 19)]) ({ frames := 8, cells := 4, slots := 24, locals := 136 } : Room) (va_Pc [.ref (A 0), .int x1, .int x2, .int x3, .ref (A 6)] (PrN D cy A G M sz)) (WQ D cy A G (Fr A G sz) w) (Xx D cy A G (Fr A G sz) M (fun _ => False)) 4 24 (Fr A G sz) := by
  refine ofXH (Qc := fun sz => WQ D cy A G (Fr A G sz) w) (XC := fun sz => Xx D cy A G (Fr A G sz) M (fun _ => False)) (by decide +kernel) (Nat.le_of_ble_eq_true rfl) ?_
  intro p e s m below meth c hx hb hr hts hown hlocks hml hex hK hR hT hN hw ls hl
  have hl : lv_has ls 6 [(0, .ref (A 0)), (1, .int x1), (2, .int x2), (3, .int x3), (4, .ref (A 6))] := hl
  unfold m_L_member at hm
  obtain ⟨z, e1, hm⟩ := Option.bind_eq_some_iff.mp hm
  refine lv_aload hx hb dL_member_0 (lv_at hl 4 rfl) ?_
  refine lv_iconst (v := 0) hx hb dL_member_2 rfl ?_
  refine lv_aload_n hx hb dL_member_3 rfl (lv_at hl 0 rfl) ?_
  refine lv_iload_n hx hb dL_member_4 rfl (lv_at hl 1 rfl) ?_
  refine lv_iload_n hx hb dL_member_5 rfl (lv_at hl 2 rfl) ?_
  refine lv_iload_n hx hb dL_member_6 rfl (lv_at hl 3 rfl) ?_
  refine vx_calli (xV hx hb hml hts hown hK hR hT Fr_hi hw (c_X5_member l hfl (⟨rfl, sm_in (by omega)⟩ : TT G 4 0) e1) (⟨rfl, sm_in (by omega)⟩ : TT G 4 0) (by decide) rfl (mkV 3 hts k_ml_RL_82 k_im_yX5_member k_se_yX5_member k_in_RX5 k_co_yX5_member hd_X5_member ⟨Nat.le_of_ble_eq_true rfl, Nat.le_of_ble_eq_true rfl⟩) rfl hl.1 rfl (Nat.le_of_ble_eq_true rfl) dL_member_7 ⟨Nat.le_of_ble_eq_true rfl, Nat.le_of_ble_eq_true rfl⟩) hw.2.2 (fun q _ h => Fr_As hw Fr_hi q h) (Fr_As hw Fr_hi) (fun q _ h => Fr_As hw Fr_hi q h) (fun E ce q9 k t H1 locs1 ht _ hp hB _ _ hS hce hcv hcl => ?_) (fun r u t H1 locs1 ht _ hp hB _ _ hS => ?_)
  · have hw := wdX hw Fr_hi ht hB.2 hS
    obtain ⟨rfl, -⟩ := hB
    rw [onx_r hp] at hm
    by_cases h1 : k = 1
    · subst h1
      rw [if_pos rfl] at hm
      refine ct1 hts hown hR hex (by decide) (by decide) k_cl_RL_19 hce hcv hcl ?_
      refine lv_astore (lv' := [(5, .ref q9), (0, .ref (A 0)), (1, .int x1), (2, .int x2), (3, .int x3), (4, .ref (A 6))]) hx hb dL_member_15 hl (by decide) rfl (fun ls hl => ?_)
      refine lv_iconst (v := 1) hx hb dL_member_17 rfl ?_
      exact eWI hx hb hr hlocks hw (Option.some.inj hm).symm (fun c h => ⟨rfl, h⟩) (Nat.le_of_ble_eq_true rfl) (Nat.le_of_ble_eq_true rfl) dL_member_18
    rw [if_neg h1] at hm
    cases hm
  · have hw := wdX hw Fr_hi ht hB hS
    rw [onx_l hp] at hm
    refine lv_i2l hx hb dL_member_10 rfl ?_
    refine pL hx hb hK hw dL_member_11 (fun H locs hw => ?_)
    refine lv_goto (tgt := 19) hx hb dL_member_12 (by decide) ?_
    refine lv_iconst (v := 0) hx hb dL_member_19 rfl ?_
    exact eWI hx hb hr hlocks hw (Option.some.inj hm).symm (fun c h => ⟨rfl, h⟩) (Nat.le_of_ble_eq_true rfl) (Nat.le_of_ble_eq_true rfl) dL_member_20
set_option maxHeartbeats 4000000 in
set_option maxRecDepth 100000 in
theorem c_L_underReplicated (l : Launch) {D : va_G} {cy : Nat → ClassId} {A : Nat → Nat} {G : Nat → Bool} {M : Mem} {sz : Nat} {x1 : Int32} (hfl : l.stackTraces = false) {w : Int32 × (Nat → Bool) × Mem} (hm : m_L_underReplicated x1 G M = some w) : vx_Met l yL_underReplicated (wmW yL_underReplicated cL_underReplicated 4 (some .int) [(0, 9, 12, 19)]) ({ frames := 8, cells := 4, slots := 24, locals := 139 } : Room) (va_Pc [.ref (A 0), .int x1, .ref (A 6)] (PrN D cy A G M sz)) (WQ D cy A G (Fr A G sz) w) (Xx D cy A G (Fr A G sz) M (fun _ => False)) 4 24 (Fr A G sz) := by
  refine ofXH (Qc := fun sz => WQ D cy A G (Fr A G sz) w) (XC := fun sz => Xx D cy A G (Fr A G sz) M (fun _ => False)) (by decide +kernel) (Nat.le_of_ble_eq_true rfl) ?_
  intro p e s m below meth c hx hb hr hts hown hlocks hml hex hK hR hT hN hw ls hl
  have hl : lv_has ls 4 [(0, .ref (A 0)), (1, .int x1), (2, .ref (A 6))] := hl
  unfold m_L_underReplicated at hm
  obtain ⟨z, e1, hm⟩ := Option.bind_eq_some_iff.mp hm
  refine lv_aload_n hx hb dL_underReplicated_0 rfl (lv_at hl 2 rfl) ?_
  refine lv_iconst (v := 0) hx hb dL_underReplicated_1 rfl ?_
  refine lv_aload_n hx hb dL_underReplicated_2 rfl (lv_at hl 0 rfl) ?_
  refine lv_iload_n hx hb dL_underReplicated_3 rfl (lv_at hl 1 rfl) ?_
  refine vx_calli (xV hx hb hml hts hown hK hR hT Fr_hi hw (c_X5_underReplicated l hfl (⟨rfl, sm_in (by omega)⟩ : TT G 4 0) e1) (⟨rfl, sm_in (by omega)⟩ : TT G 4 0) (by decide) rfl (mkV 1 hts k_ml_RL_85 k_im_yX5_underReplicated k_se_yX5_underReplicated k_in_RX5 k_co_yX5_underReplicated hd_X5_underReplicated ⟨Nat.le_of_ble_eq_true rfl, Nat.le_of_ble_eq_true rfl⟩) rfl hl.1 rfl (Nat.le_of_ble_eq_true rfl) dL_underReplicated_4 ⟨Nat.le_of_ble_eq_true rfl, Nat.le_of_ble_eq_true rfl⟩) hw.2.2 (fun q _ h => Fr_As hw Fr_hi q h) (Fr_As hw Fr_hi) (fun q _ h => Fr_As hw Fr_hi q h) (fun E ce q9 k t H1 locs1 ht _ hp hB _ _ hS hce hcv hcl => ?_) (fun r u t H1 locs1 ht _ hp hB _ _ hS => ?_)
  · have hw := wdX hw Fr_hi ht hB.2 hS
    obtain ⟨rfl, -⟩ := hB
    rw [onx_r hp] at hm
    by_cases h1 : k = 1
    · subst h1
      rw [if_pos rfl] at hm
      refine ct1 hts hown hR hex (by decide) (by decide) k_cl_RL_19 hce hcv hcl ?_
      refine lv_astore_n (lv' := [(3, .ref q9), (0, .ref (A 0)), (1, .int x1), (2, .ref (A 6))]) hx hb dL_underReplicated_12 rfl hl (by decide) rfl (fun ls hl => ?_)
      refine lv_iconst (v := 1) hx hb dL_underReplicated_13 rfl ?_
      exact eWI hx hb hr hlocks hw (Option.some.inj hm).symm (fun c h => ⟨rfl, h⟩) (Nat.le_of_ble_eq_true rfl) (Nat.le_of_ble_eq_true rfl) dL_underReplicated_14
    rw [if_neg h1] at hm
    cases hm
  · have hw := wdX hw Fr_hi ht hB hS
    rw [onx_l hp] at hm
    refine lv_i2l hx hb dL_underReplicated_7 rfl ?_
    refine pL hx hb hK hw dL_underReplicated_8 (fun H locs hw => ?_)
    refine lv_goto (tgt := 15) hx hb dL_underReplicated_9 (by decide) ?_
    refine lv_iconst (v := 0) hx hb dL_underReplicated_15 rfl ?_
    exact eWI hx hb hr hlocks hw (Option.some.inj hm).symm (fun c h => ⟨rfl, h⟩) (Nat.le_of_ble_eq_true rfl) (Nat.le_of_ble_eq_true rfl) dL_underReplicated_16
set_option maxHeartbeats 4000000 in
set_option maxRecDepth 100000 in
theorem c_L_undo (l : Launch) {D : va_G} {cy : Nat → ClassId} {A : Nat → Nat} {G : Nat → Bool} {M : Mem} {sz : Nat}  (hfl : l.stackTraces = false) {w : Int32 × (Nat → Bool) × Mem} (hm : m_L_undo  G M = some w) : vx_Met l yL_undo (wmW yL_undo cL_undo 3 (some .int) [(0, 8, 11, 13)]) ({ frames := 7, cells := 50, slots := 3520, locals := 149 } : Room) (va_Pc [.ref (A 0), .ref (A 6)] (PrN D cy A G M sz)) (WQ D cy A G (Fr A G sz) w) (Xx D cy A G (Fr A G sz) M (fun _ => False)) 50 3520 (Fr A G sz) := by
  refine ofXH (Qc := fun sz => WQ D cy A G (Fr A G sz) w) (XC := fun sz => Xx D cy A G (Fr A G sz) M (fun _ => False)) (by decide +kernel) (Nat.le_of_ble_eq_true rfl) ?_
  intro p e s m below meth c hx hb hr hts hown hlocks hml hex hK hR hT hN hw ls hl
  have hl : lv_has ls 3 [(0, .ref (A 0)), (1, .ref (A 6))] := hl
  unfold m_L_undo at hm
  obtain ⟨z, e1, hm⟩ := Option.bind_eq_some_iff.mp hm
  refine lv_aload_n hx hb dL_undo_0 rfl (lv_at hl 1 rfl) ?_
  refine lv_iconst (v := 0) hx hb dL_undo_1 rfl ?_
  refine lv_aload_n hx hb dL_undo_2 rfl (lv_at hl 0 rfl) ?_
  refine vx_calli (xV hx hb hml hts hown hK hR hT Fr_hi hw (c_X5_undo l hfl (⟨rfl, sm_in (by omega)⟩ : TT G 4 0) e1) (⟨rfl, sm_in (by omega)⟩ : TT G 4 0) (by decide) rfl (mkV 0 hts k_ml_RL_88 k_im_yX5_undo k_se_yX5_undo k_in_RX5 k_co_yX5_undo hd_X5_undo ⟨Nat.le_of_ble_eq_true rfl, Nat.le_of_ble_eq_true rfl⟩) rfl hl.1 rfl (Nat.le_of_ble_eq_true rfl) dL_undo_3 ⟨Nat.le_of_ble_eq_true rfl, Nat.le_of_ble_eq_true rfl⟩) hw.2.2 (fun q _ h => Fr_As hw Fr_hi q h) (Fr_As hw Fr_hi) (fun q _ h => Fr_As hw Fr_hi q h) (fun E ce q9 k t H1 locs1 ht _ hp hB _ _ hS hce hcv hcl => ?_) (fun r A1 t H1 locs1 ht _ hp hB _ _ hS => ?_)
  · have hw := wdX hw Fr_hi ht hB.2 hS
    obtain ⟨rfl, -⟩ := hB
    rw [onx_r hp] at hm
    by_cases h2 : k = 2
    · subst h2
      rw [if_pos rfl] at hm
      refine ct2 hts hown hR hex (by decide) (by decide) k_cl_RL_13 hce hcv hcl ?_
      refine lv_astore_n (lv' := [(2, .ref q9), (0, .ref (A 0)), (1, .ref (A 6))]) hx hb dL_undo_11 rfl hl (by decide) rfl (fun ls hl => ?_)
      refine lv_iconst (v := 1) hx hb dL_undo_12 rfl ?_
      exact eWI hx hb hr hlocks hw (Option.some.inj hm).symm (fun c h => ⟨rfl, h⟩) (Nat.le_of_ble_eq_true rfl) (Nat.le_of_ble_eq_true rfl) dL_undo_13
    rw [if_neg h2] at hm
    cases hm
  · obtain ⟨G', M', hz, hAA⟩ := hp
    obtain ⟨r', G2, M2, hz2, hB⟩ := hB
    cases hz.symm.trans hz2
    rw [onx_l hz] at hm
    have hw := wdX hw Fr_hi ht hB hS
    rw [← (hAA 6 (sm_in (by omega))).1]
    refine lv_i2l hx hb dL_undo_6 rfl ?_
    refine pL hx hb hK hw dL_undo_7 (fun H locs hw => ?_)
    refine lv_goto (tgt := 14) hx hb dL_undo_8 (by decide) ?_
    refine lv_iconst (v := 0) hx hb dL_undo_14 rfl ?_
    exact eWI hx hb hr hlocks hw (Option.some.inj hm).symm (fun c hc => hAA c hc) (Nat.le_of_ble_eq_true rfl) (Nat.le_of_ble_eq_true rfl) dL_undo_15
