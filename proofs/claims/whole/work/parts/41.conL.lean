section KW
variable {p : Program} {l : Launch} {e : Env} {R : Room} {s : State} {m : MethodId} {args : Array Value} {below : List Frame} {meth : Method} {c : Code} {H : Heap} {locs : List Loc} {cells slots mc ms : Nat} {Q : State → Prop} {g : JFrame}
theorem kwid (k : W p l e R s m args below meth c H locs (cells + 50) (slots + 3520) Q g) : W p l e R s m args below meth c H locs cells slots Q g := W.widen (Nat.le_add_right _ _) (Nat.le_add_right _ _) k
theorem kwid2 (h1 : mc ≤ 50) (h2 : ms ≤ 3520) (k : W p l e R s m args below meth c H locs (cells + 50) (slots + 3520) Q g) : W p l e R s m args below meth c H locs (cells + mc) (slots + ms) Q g := W.widen (Nat.add_le_add_left h1 _) (Nat.add_le_add_left h2 _) k
theorem kle {a b n : Nat} (h : a + b ≤ n) : a + 0 ≤ n := Nat.le_trans (Nat.le_add_right _ _) h
end KW
set_option maxHeartbeats 4000000 in
set_option maxRecDepth 100000 in
theorem k_law_0 {p : Program} {l : Launch} {e : Env} {s : State} {m : MethodId} {below : List Frame} {meth : Method} {c : Code} {H : Heap} {locs : List Loc} {cells slots : Nat} {Q : State → Prop} {D : va_G} {cy : Nat → ClassId} {A : Nat → Nat} {G G1 : Nat → Bool} {M M1 : Mem} {b L i : Nat} {xs : Nat → Int32} {ls : Array Slot} (C0 : LC p l s m c b L xs D cy) (hw : WD D cy (LAs s) A s.heap G M H locs) (hl : lv_has ls 8 [(5, .int (nI i)), (0, .ref b), (1, .ref (A 0)), (2, .ref (A 3)), (3, .ref (A 6)), (4, .ref (A 7))]) (hi : i + 4 ≤ L) (hcs : cells + 50 ≤ 601024 ∧ slots + 3520 ≤ 7293034) (hm : s_0  G M = some (G1, M1))
    (kk : ∀ (A1 : Nat → Nat) (H1 : Heap) (locs1 : List Loc) (ls1 : Array Slot), WD D cy (LAs s) A1 s.heap G1 M1 H1 locs1 → lv_has ls1 8 [(5, .int (nI i)), (0, .ref b), (1, .ref (A1 0)), (2, .ref (A1 3)), (3, .ref (A1 6)), (4, .ref (A1 7))] → W p l e room_1 s m #[Value.ref b] below meth c H1 locs1 (cells + 50) (slots + 3520) Q (F0 m 1689 ls1 [])) : W p l e room_1 s m #[Value.ref b] below meth c H locs cells slots Q (F0 m 168 ls []) := by
  obtain ⟨hx, hb, hml, hown, hts, hK, hR, hT, hN, hX, hbl, hL, hfl⟩ := C0
  have hA : ∀ q, s.heap.size ≤ q → LAs s q := fun _ h => h
  unfold s_0 at hm
  refine lv_aload_n hx hb dL_law_168 rfl (lv_at hl 2 rfl) ?_
  refine lv_aload_n hx hb dL_law_169 rfl (lv_at hl 4 rfl) ?_
  obtain ⟨w, e1, hm⟩ := Option.bind_eq_some_iff.mp hm
  refine kW hx hb hml hts hown hK hR hT hN hA hw (c_L_addNode l hfl e1) (mkSW 2 hts k_ml_RL_95 k_st_yL_addNode k_in_RL k_cw_yL_addNode hd_L_addNode ⟨Nat.le_of_ble_eq_true rfl, Nat.le_of_ble_eq_true rfl⟩) rfl hl.1 rfl (Nat.le_of_ble_eq_true rfl) dL_law_170 ⟨Nat.le_trans (Nat.add_le_add_left (Nat.le_of_ble_eq_true rfl) _) hcs.1, Nat.le_trans (Nat.add_le_add_left (Nat.le_of_ble_eq_true rfl) _) hcs.2⟩ (fun A1 hAA H locs hw => ?_)
  have hl : lv_has ls 8 [(5, .int (nI i)), (0, .ref b), (1, .ref (A1 0)), (2, .ref (A1 3)), (3, .ref (A1 6)), (4, .ref (A1 7))] := by
    rw [(hAA 0 (sm_in (by omega))).1, (hAA 3 (sm_in (by omega))).1, (hAA 6 (sm_in (by omega))).1, (hAA 7 (sm_in (by omega))).1]
    exact hl
  refine lv_istore (lv' := [(6, .int w.1), (5, .int (nI i)), (0, .ref b), (1, .ref (A1 0)), (2, .ref (A1 3)), (3, .ref (A1 6)), (4, .ref (A1 7))]) hx hb dL_law_173 hl (by decide) rfl (fun ls hl => ?_)
  refine lv_aload_n hx hb dL_law_175 rfl (lv_at hl 4 rfl) ?_
  obtain ⟨z, ez, hm⟩ := Option.bind_eq_some_iff.mp hm
  refine ki hw hA (rV hx hb hml hts hown hK hw (c_X6_addNode l (⟨rfl, sm_in (by omega)⟩ : TT w.2.1 5 3) ez) (⟨rfl, sm_in (by omega)⟩ : TT w.2.1 5 3) (by decide) rfl (mkV 0 hts k_ml_RL_100 k_im_yX6_addNode k_se_yX6_addNode k_in_RX6 k_co_yX6_addNode hd_X6_addNode ⟨Nat.le_of_ble_eq_true rfl, Nat.le_of_ble_eq_true rfl⟩) rfl hl.1 rfl (Nat.le_of_ble_eq_true rfl) dL_law_176 ⟨hcs.1, hcs.2⟩) (fun H locs hw => ?_)
  refine lv_istore (lv' := [(7, .int z.1), (6, .int w.1), (5, .int (nI i)), (0, .ref b), (1, .ref (A1 0)), (2, .ref (A1 3)), (3, .ref (A1 6)), (4, .ref (A1 7))]) hx hb dL_law_179 hl (by decide) rfl (fun ls hl => ?_)
  refine lv_aload_n hx hb dL_law_181 rfl (lv_at hl 5 rfl) ?_
  refine ki hw hA (rV hx hb hml hts hown hK hw (c_X6_thrown l (⟨rfl, sm_in (by omega)⟩ : TT w.2.1 5 3)) (⟨rfl, sm_in (by omega)⟩ : TT w.2.1 5 3) (by decide) rfl (mkV 0 hts k_ml_RL_101 k_im_yX6_thrown k_se_yX6_thrown k_in_RX6 k_co_yX6_thrown hd_X6_thrown ⟨Nat.le_of_ble_eq_true rfl, Nat.le_of_ble_eq_true rfl⟩) rfl hl.1 rfl (Nat.le_of_ble_eq_true rfl) dL_law_182 ⟨hcs.1, hcs.2⟩) (fun H locs hw => ?_)
  refine lv_iload hx hb dL_law_185 (lv_at hl 1 rfl) ?_
  refine lv_icmp_eq (tgt := 192) hx hb dL_law_187 (by decide) (fun hq => ?_) (fun hq => ?_)
  · rw [if_pos hq] at hm
    refine lv_iload hx hb dL_law_192 (lv_at hl 1 rfl) ?_
    refine lv_if_ne (tgt := 209) hx hb dL_law_194 (by decide) (fun hq0 => ?_) (fun hq0 => ?_)
    · rw [if_neg hq0] at hm
      cases Option.some.inj hm
      refine lv_goto (tgt := 1689) hx hb dL_law_209 (by decide) ?_
      exact kk A1 H locs ls hw (lv_sub hl [2, 3, 4, 5, 6, 7] rfl)
    · rw [if_pos hq0] at hm
      refine lv_aload_n hx hb dL_law_197 rfl (lv_at hl 6 rfl) ?_
      refine lv_iconst (v := 0) hx hb dL_law_198 rfl ?_
      refine gL hx hb hK hw dL_law_199 ?_
      refine lv_iload hx hb dL_law_200 (lv_at hl 0 rfl) ?_
      refine lv_i2l hx hb dL_law_202 rfl ?_
      refine lv_lcmp hx hb dL_law_203 (fun v hv => ?_)
      refine lv_if_eq (tgt := 209) hx hb dL_law_204 (by decide) (fun h0 => ?_) (fun h0 => ?_)
      · rw [if_pos (hv.mp h0)] at hm
        cases Option.some.inj hm
        refine lv_goto (tgt := 1689) hx hb dL_law_209 (by decide) ?_
        exact kk A1 H locs ls hw (lv_sub hl [2, 3, 4, 5, 6, 7] rfl)
      · rw [if_neg (fun h => h0 (hv.mpr h))] at hm
        cases hm
  · rw [if_neg hq] at hm
    cases hm
set_option maxHeartbeats 4000000 in
set_option maxRecDepth 100000 in
theorem k_law_1 {p : Program} {l : Launch} {e : Env} {s : State} {m : MethodId} {below : List Frame} {meth : Method} {c : Code} {H : Heap} {locs : List Loc} {cells slots : Nat} {Q : State → Prop} {D : va_G} {cy : Nat → ClassId} {A : Nat → Nat} {G G1 : Nat → Bool} {M M1 : Mem} {b L i : Nat} {xs : Nat → Int32} {ls : Array Slot} (C0 : LC p l s m c b L xs D cy) (hw : WD D cy (LAs s) A s.heap G M H locs) (hl : lv_has ls 8 [(5, .int (nI i)), (0, .ref b), (1, .ref (A 0)), (2, .ref (A 3)), (3, .ref (A 6)), (4, .ref (A 7))]) (hi : i + 4 ≤ L) (hcs : cells + 50 ≤ 601024 ∧ slots + 3520 ≤ 7293034) (hm : s_1 (xs (i + 1)) G M = some (G1, M1))
    (kk : ∀ (A1 : Nat → Nat) (H1 : Heap) (locs1 : List Loc) (ls1 : Array Slot), WD D cy (LAs s) A1 s.heap G1 M1 H1 locs1 → lv_has ls1 8 [(5, .int (nI i)), (0, .ref b), (1, .ref (A1 0)), (2, .ref (A1 3)), (3, .ref (A1 6)), (4, .ref (A1 7))] → W p l e room_1 s m #[Value.ref b] below meth c H1 locs1 (cells + 50) (slots + 3520) Q (F0 m 1689 ls1 [])) : W p l e room_1 s m #[Value.ref b] below meth c H locs cells slots Q (F0 m 212 ls []) := by
  obtain ⟨hx, hb, hml, hown, hts, hK, hR, hT, hN, hX, hbl, hL, hfl⟩ := C0
  have hA : ∀ q, s.heap.size ≤ q → LAs s q := fun _ h => h
  unfold s_1 at hm
  refine lv_aload_n hx hb dL_law_212 rfl (lv_at hl 2 rfl) ?_
  refine lv_aload_n hx hb dL_law_213 rfl (lv_at hl 1 rfl) ?_
  refine lv_iload hx hb dL_law_214 (lv_at hl 0 rfl) ?_
  refine lv_iconst (v := 1) hx hb dL_law_216 rfl ?_
  refine lv_iadd hx hb dL_law_217 ?_
  refine xl (k := 1) hx hb hX hbl hL hw rfl (by omega) dL_law_218 ?_
  refine lv_aload_n hx hb dL_law_219 rfl (lv_at hl 4 rfl) ?_
  obtain ⟨w, e1, hm⟩ := Option.bind_eq_some_iff.mp hm
  refine kW hx hb hml hts hown hK hR hT hN hA hw (c_L_crash l hfl e1) (mkSW 3 hts k_ml_RL_104 k_st_yL_crash k_in_RL k_cw_yL_crash hd_L_crash ⟨Nat.le_of_ble_eq_true rfl, Nat.le_of_ble_eq_true rfl⟩) rfl hl.1 rfl (Nat.le_of_ble_eq_true rfl) dL_law_220 ⟨Nat.le_trans (Nat.add_le_add_left (Nat.le_of_ble_eq_true rfl) _) hcs.1, Nat.le_trans (Nat.add_le_add_left (Nat.le_of_ble_eq_true rfl) _) hcs.2⟩ (fun A1 hAA H locs hw => ?_)
  have hl : lv_has ls 8 [(5, .int (nI i)), (0, .ref b), (1, .ref (A1 0)), (2, .ref (A1 3)), (3, .ref (A1 6)), (4, .ref (A1 7))] := by
    rw [(hAA 0 (sm_in (by omega))).1, (hAA 3 (sm_in (by omega))).1, (hAA 6 (sm_in (by omega))).1, (hAA 7 (sm_in (by omega))).1]
    exact hl
  refine lv_istore (lv' := [(6, .int w.1), (5, .int (nI i)), (0, .ref b), (1, .ref (A1 0)), (2, .ref (A1 3)), (3, .ref (A1 6)), (4, .ref (A1 7))]) hx hb dL_law_223 hl (by decide) rfl (fun ls hl => ?_)
  refine lv_aload_n hx hb dL_law_225 rfl (lv_at hl 4 rfl) ?_
  refine lv_aload_n hx hb dL_law_226 rfl (lv_at hl 2 rfl) ?_
  refine lv_iload hx hb dL_law_227 (lv_at hl 1 rfl) ?_
  refine lv_iconst (v := 1) hx hb dL_law_229 rfl ?_
  refine lv_iadd hx hb dL_law_230 ?_
  refine xl (k := 1) hx hb hX hbl hL hw rfl (by omega) dL_law_231 ?_
  obtain ⟨z, ez, hm⟩ := Option.bind_eq_some_iff.mp hm
  refine ki hw hA (rV hx hb hml hts hown hK hw (c_X6_crash l (⟨rfl, sm_in (by omega)⟩ : TT w.2.1 5 3) ez) (⟨rfl, sm_in (by omega)⟩ : TT w.2.1 5 3) (by decide) rfl (mkV 1 hts k_ml_RL_107 k_im_yX6_crash k_se_yX6_crash k_in_RX6 k_co_yX6_crash hd_X6_crash ⟨Nat.le_of_ble_eq_true rfl, Nat.le_of_ble_eq_true rfl⟩) rfl hl.1 rfl (Nat.le_of_ble_eq_true rfl) dL_law_232 ⟨hcs.1, hcs.2⟩) (fun H locs hw => ?_)
  refine lv_istore (lv' := [(7, .int z.1), (6, .int w.1), (5, .int (nI i)), (0, .ref b), (1, .ref (A1 0)), (2, .ref (A1 3)), (3, .ref (A1 6)), (4, .ref (A1 7))]) hx hb dL_law_235 hl (by decide) rfl (fun ls hl => ?_)
  refine lv_aload_n hx hb dL_law_237 rfl (lv_at hl 5 rfl) ?_
  refine ki hw hA (rV hx hb hml hts hown hK hw (c_X6_thrown l (⟨rfl, sm_in (by omega)⟩ : TT w.2.1 5 3)) (⟨rfl, sm_in (by omega)⟩ : TT w.2.1 5 3) (by decide) rfl (mkV 0 hts k_ml_RL_101 k_im_yX6_thrown k_se_yX6_thrown k_in_RX6 k_co_yX6_thrown hd_X6_thrown ⟨Nat.le_of_ble_eq_true rfl, Nat.le_of_ble_eq_true rfl⟩) rfl hl.1 rfl (Nat.le_of_ble_eq_true rfl) dL_law_238 ⟨hcs.1, hcs.2⟩) (fun H locs hw => ?_)
  refine lv_iload hx hb dL_law_241 (lv_at hl 1 rfl) ?_
  refine lv_icmp_eq (tgt := 248) hx hb dL_law_243 (by decide) (fun hq => ?_) (fun hq => ?_)
  · rw [if_pos hq] at hm
    refine lv_iload hx hb dL_law_248 (lv_at hl 1 rfl) ?_
    refine lv_if_ne (tgt := 265) hx hb dL_law_250 (by decide) (fun hq0 => ?_) (fun hq0 => ?_)
    · rw [if_neg hq0] at hm
      cases Option.some.inj hm
      refine lv_goto (tgt := 1689) hx hb dL_law_265 (by decide) ?_
      exact kk A1 H locs ls hw (lv_sub hl [2, 3, 4, 5, 6, 7] rfl)
    · rw [if_pos hq0] at hm
      refine lv_aload_n hx hb dL_law_253 rfl (lv_at hl 6 rfl) ?_
      refine lv_iconst (v := 0) hx hb dL_law_254 rfl ?_
      refine gL hx hb hK hw dL_law_255 ?_
      refine lv_iload hx hb dL_law_256 (lv_at hl 0 rfl) ?_
      refine lv_i2l hx hb dL_law_258 rfl ?_
      refine lv_lcmp hx hb dL_law_259 (fun v hv => ?_)
      refine lv_if_eq (tgt := 265) hx hb dL_law_260 (by decide) (fun h0 => ?_) (fun h0 => ?_)
      · rw [if_pos (hv.mp h0)] at hm
        cases Option.some.inj hm
        refine lv_goto (tgt := 1689) hx hb dL_law_265 (by decide) ?_
        exact kk A1 H locs ls hw (lv_sub hl [2, 3, 4, 5, 6, 7] rfl)
      · rw [if_neg (fun h => h0 (hv.mpr h))] at hm
        cases hm
  · rw [if_neg hq] at hm
    cases hm
set_option maxHeartbeats 4000000 in
set_option maxRecDepth 100000 in
theorem k_law_2 {p : Program} {l : Launch} {e : Env} {s : State} {m : MethodId} {below : List Frame} {meth : Method} {c : Code} {H : Heap} {locs : List Loc} {cells slots : Nat} {Q : State → Prop} {D : va_G} {cy : Nat → ClassId} {A : Nat → Nat} {G G1 : Nat → Bool} {M M1 : Mem} {b L i : Nat} {xs : Nat → Int32} {ls : Array Slot} (C0 : LC p l s m c b L xs D cy) (hw : WD D cy (LAs s) A s.heap G M H locs) (hl : lv_has ls 8 [(5, .int (nI i)), (0, .ref b), (1, .ref (A 0)), (2, .ref (A 3)), (3, .ref (A 6)), (4, .ref (A 7))]) (hi : i + 4 ≤ L) (hcs : cells + 50 ≤ 601024 ∧ slots + 3520 ≤ 7293034) (hm : s_2 (xs (i + 1)) G M = some (G1, M1))
    (kk : ∀ (A1 : Nat → Nat) (H1 : Heap) (locs1 : List Loc) (ls1 : Array Slot), WD D cy (LAs s) A1 s.heap G1 M1 H1 locs1 → lv_has ls1 8 [(5, .int (nI i)), (0, .ref b), (1, .ref (A1 0)), (2, .ref (A1 3)), (3, .ref (A1 6)), (4, .ref (A1 7))] → W p l e room_1 s m #[Value.ref b] below meth c H1 locs1 (cells + 50) (slots + 3520) Q (F0 m 1689 ls1 [])) : W p l e room_1 s m #[Value.ref b] below meth c H locs cells slots Q (F0 m 268 ls []) := by
  obtain ⟨hx, hb, hml, hown, hts, hK, hR, hT, hN, hX, hbl, hL, hfl⟩ := C0
  have hA : ∀ q, s.heap.size ≤ q → LAs s q := fun _ h => h
  unfold s_2 at hm
  refine lv_aload_n hx hb dL_law_268 rfl (lv_at hl 2 rfl) ?_
  refine lv_aload_n hx hb dL_law_269 rfl (lv_at hl 1 rfl) ?_
  refine lv_iload hx hb dL_law_270 (lv_at hl 0 rfl) ?_
  refine lv_iconst (v := 1) hx hb dL_law_272 rfl ?_
  refine lv_iadd hx hb dL_law_273 ?_
  refine xl (k := 1) hx hb hX hbl hL hw rfl (by omega) dL_law_274 ?_
  refine lv_aload_n hx hb dL_law_275 rfl (lv_at hl 4 rfl) ?_
  obtain ⟨w, e1, hm⟩ := Option.bind_eq_some_iff.mp hm
  refine kW hx hb hml hts hown hK hR hT hN hA hw (c_L_restart l hfl e1) (mkSW 3 hts k_ml_RL_108 k_st_yL_restart k_in_RL k_cw_yL_restart hd_L_restart ⟨Nat.le_of_ble_eq_true rfl, Nat.le_of_ble_eq_true rfl⟩) rfl hl.1 rfl (Nat.le_of_ble_eq_true rfl) dL_law_276 ⟨Nat.le_trans (Nat.add_le_add_left (Nat.le_of_ble_eq_true rfl) _) hcs.1, Nat.le_trans (Nat.add_le_add_left (Nat.le_of_ble_eq_true rfl) _) hcs.2⟩ (fun A1 hAA H locs hw => ?_)
  have hl : lv_has ls 8 [(5, .int (nI i)), (0, .ref b), (1, .ref (A1 0)), (2, .ref (A1 3)), (3, .ref (A1 6)), (4, .ref (A1 7))] := by
    rw [(hAA 0 (sm_in (by omega))).1, (hAA 3 (sm_in (by omega))).1, (hAA 6 (sm_in (by omega))).1, (hAA 7 (sm_in (by omega))).1]
    exact hl
  refine lv_istore (lv' := [(6, .int w.1), (5, .int (nI i)), (0, .ref b), (1, .ref (A1 0)), (2, .ref (A1 3)), (3, .ref (A1 6)), (4, .ref (A1 7))]) hx hb dL_law_279 hl (by decide) rfl (fun ls hl => ?_)
  refine lv_aload_n hx hb dL_law_281 rfl (lv_at hl 4 rfl) ?_
  refine lv_aload_n hx hb dL_law_282 rfl (lv_at hl 2 rfl) ?_
  refine lv_iload hx hb dL_law_283 (lv_at hl 1 rfl) ?_
  refine lv_iconst (v := 1) hx hb dL_law_285 rfl ?_
  refine lv_iadd hx hb dL_law_286 ?_
  refine xl (k := 1) hx hb hX hbl hL hw rfl (by omega) dL_law_287 ?_
  obtain ⟨z, ez, hm⟩ := Option.bind_eq_some_iff.mp hm
  refine ki hw hA (rV hx hb hml hts hown hK hw (c_X6_restart l (⟨rfl, sm_in (by omega)⟩ : TT w.2.1 5 3) ez) (⟨rfl, sm_in (by omega)⟩ : TT w.2.1 5 3) (by decide) rfl (mkV 1 hts k_ml_RL_110 k_im_yX6_restart k_se_yX6_restart k_in_RX6 k_co_yX6_restart hd_X6_restart ⟨Nat.le_of_ble_eq_true rfl, Nat.le_of_ble_eq_true rfl⟩) rfl hl.1 rfl (Nat.le_of_ble_eq_true rfl) dL_law_288 ⟨hcs.1, hcs.2⟩) (fun H locs hw => ?_)
  refine lv_istore (lv' := [(7, .int z.1), (6, .int w.1), (5, .int (nI i)), (0, .ref b), (1, .ref (A1 0)), (2, .ref (A1 3)), (3, .ref (A1 6)), (4, .ref (A1 7))]) hx hb dL_law_291 hl (by decide) rfl (fun ls hl => ?_)
  refine lv_aload_n hx hb dL_law_293 rfl (lv_at hl 5 rfl) ?_
  refine ki hw hA (rV hx hb hml hts hown hK hw (c_X6_thrown l (⟨rfl, sm_in (by omega)⟩ : TT w.2.1 5 3)) (⟨rfl, sm_in (by omega)⟩ : TT w.2.1 5 3) (by decide) rfl (mkV 0 hts k_ml_RL_101 k_im_yX6_thrown k_se_yX6_thrown k_in_RX6 k_co_yX6_thrown hd_X6_thrown ⟨Nat.le_of_ble_eq_true rfl, Nat.le_of_ble_eq_true rfl⟩) rfl hl.1 rfl (Nat.le_of_ble_eq_true rfl) dL_law_294 ⟨hcs.1, hcs.2⟩) (fun H locs hw => ?_)
  refine lv_iload hx hb dL_law_297 (lv_at hl 1 rfl) ?_
  refine lv_icmp_eq (tgt := 304) hx hb dL_law_299 (by decide) (fun hq => ?_) (fun hq => ?_)
  · rw [if_pos hq] at hm
    refine lv_iload hx hb dL_law_304 (lv_at hl 1 rfl) ?_
    refine lv_if_ne (tgt := 321) hx hb dL_law_306 (by decide) (fun hq0 => ?_) (fun hq0 => ?_)
    · rw [if_neg hq0] at hm
      cases Option.some.inj hm
      refine lv_goto (tgt := 1689) hx hb dL_law_321 (by decide) ?_
      exact kk A1 H locs ls hw (lv_sub hl [2, 3, 4, 5, 6, 7] rfl)
    · rw [if_pos hq0] at hm
      refine lv_aload_n hx hb dL_law_309 rfl (lv_at hl 6 rfl) ?_
      refine lv_iconst (v := 0) hx hb dL_law_310 rfl ?_
      refine gL hx hb hK hw dL_law_311 ?_
      refine lv_iload hx hb dL_law_312 (lv_at hl 0 rfl) ?_
      refine lv_i2l hx hb dL_law_314 rfl ?_
      refine lv_lcmp hx hb dL_law_315 (fun v hv => ?_)
      refine lv_if_eq (tgt := 321) hx hb dL_law_316 (by decide) (fun h0 => ?_) (fun h0 => ?_)
      · rw [if_pos (hv.mp h0)] at hm
        cases Option.some.inj hm
        refine lv_goto (tgt := 1689) hx hb dL_law_321 (by decide) ?_
        exact kk A1 H locs ls hw (lv_sub hl [2, 3, 4, 5, 6, 7] rfl)
      · rw [if_neg (fun h => h0 (hv.mpr h))] at hm
        cases hm
  · rw [if_neg hq] at hm
    cases hm
set_option maxHeartbeats 4000000 in
set_option maxRecDepth 100000 in
theorem k_law_3 {p : Program} {l : Launch} {e : Env} {s : State} {m : MethodId} {below : List Frame} {meth : Method} {c : Code} {H : Heap} {locs : List Loc} {cells slots : Nat} {Q : State → Prop} {D : va_G} {cy : Nat → ClassId} {A : Nat → Nat} {G G1 : Nat → Bool} {M M1 : Mem} {b L i : Nat} {xs : Nat → Int32} {ls : Array Slot} (C0 : LC p l s m c b L xs D cy) (hw : WD D cy (LAs s) A s.heap G M H locs) (hl : lv_has ls 8 [(5, .int (nI i)), (0, .ref b), (1, .ref (A 0)), (2, .ref (A 3)), (3, .ref (A 6)), (4, .ref (A 7))]) (hi : i + 4 ≤ L) (hcs : cells + 50 ≤ 601024 ∧ slots + 3520 ≤ 7293034) (hm : s_3 (xs (i + 1)) G M = some (G1, M1))
    (kk : ∀ (A1 : Nat → Nat) (H1 : Heap) (locs1 : List Loc) (ls1 : Array Slot), WD D cy (LAs s) A1 s.heap G1 M1 H1 locs1 → lv_has ls1 8 [(5, .int (nI i)), (0, .ref b), (1, .ref (A1 0)), (2, .ref (A1 3)), (3, .ref (A1 6)), (4, .ref (A1 7))] → W p l e room_1 s m #[Value.ref b] below meth c H1 locs1 (cells + 50) (slots + 3520) Q (F0 m 1689 ls1 [])) : W p l e room_1 s m #[Value.ref b] below meth c H locs cells slots Q (F0 m 324 ls []) := by
  obtain ⟨hx, hb, hml, hown, hts, hK, hR, hT, hN, hX, hbl, hL, hfl⟩ := C0
  have hA : ∀ q, s.heap.size ≤ q → LAs s q := fun _ h => h
  unfold s_3 at hm
  refine lv_aload_n hx hb dL_law_324 rfl (lv_at hl 2 rfl) ?_
  refine lv_aload_n hx hb dL_law_325 rfl (lv_at hl 1 rfl) ?_
  refine lv_iload hx hb dL_law_326 (lv_at hl 0 rfl) ?_
  refine lv_iconst (v := 1) hx hb dL_law_328 rfl ?_
  refine lv_iadd hx hb dL_law_329 ?_
  refine xl (k := 1) hx hb hX hbl hL hw rfl (by omega) dL_law_330 ?_
  refine lv_aload_n hx hb dL_law_331 rfl (lv_at hl 4 rfl) ?_
  obtain ⟨w, e1, hm⟩ := Option.bind_eq_some_iff.mp hm
  refine kW hx hb hml hts hown hK hR hT hN hA hw (c_L_deliver l hfl e1) (mkSW 3 hts k_ml_RL_111 k_st_yL_deliver k_in_RL k_cw_yL_deliver hd_L_deliver ⟨Nat.le_of_ble_eq_true rfl, Nat.le_of_ble_eq_true rfl⟩) rfl hl.1 rfl (Nat.le_of_ble_eq_true rfl) dL_law_332 ⟨Nat.le_trans (Nat.add_le_add_left (Nat.le_of_ble_eq_true rfl) _) hcs.1, Nat.le_trans (Nat.add_le_add_left (Nat.le_of_ble_eq_true rfl) _) hcs.2⟩ (fun A1 hAA H locs hw => ?_)
  have hl : lv_has ls 8 [(5, .int (nI i)), (0, .ref b), (1, .ref (A1 0)), (2, .ref (A1 3)), (3, .ref (A1 6)), (4, .ref (A1 7))] := by
    rw [(hAA 0 (sm_in (by omega))).1, (hAA 3 (sm_in (by omega))).1, (hAA 6 (sm_in (by omega))).1, (hAA 7 (sm_in (by omega))).1]
    exact hl
  refine lv_istore (lv' := [(6, .int w.1), (5, .int (nI i)), (0, .ref b), (1, .ref (A1 0)), (2, .ref (A1 3)), (3, .ref (A1 6)), (4, .ref (A1 7))]) hx hb dL_law_335 hl (by decide) rfl (fun ls hl => ?_)
  refine lv_aload_n hx hb dL_law_337 rfl (lv_at hl 4 rfl) ?_
  refine lv_aload_n hx hb dL_law_338 rfl (lv_at hl 2 rfl) ?_
  refine lv_iload hx hb dL_law_339 (lv_at hl 1 rfl) ?_
  refine lv_iconst (v := 1) hx hb dL_law_341 rfl ?_
  refine lv_iadd hx hb dL_law_342 ?_
  refine xl (k := 1) hx hb hX hbl hL hw rfl (by omega) dL_law_343 ?_
  obtain ⟨z, ez, hm⟩ := Option.bind_eq_some_iff.mp hm
  refine ki hw hA (rV hx hb hml hts hown hK hw (c_X6_deliver l (⟨rfl, sm_in (by omega)⟩ : TT w.2.1 5 3) ez) (⟨rfl, sm_in (by omega)⟩ : TT w.2.1 5 3) (by decide) rfl (mkV 1 hts k_ml_RL_113 k_im_yX6_deliver k_se_yX6_deliver k_in_RX6 k_co_yX6_deliver hd_X6_deliver ⟨Nat.le_of_ble_eq_true rfl, Nat.le_of_ble_eq_true rfl⟩) rfl hl.1 rfl (Nat.le_of_ble_eq_true rfl) dL_law_344 ⟨hcs.1, hcs.2⟩) (fun H locs hw => ?_)
  refine lv_istore (lv' := [(7, .int z.1), (6, .int w.1), (5, .int (nI i)), (0, .ref b), (1, .ref (A1 0)), (2, .ref (A1 3)), (3, .ref (A1 6)), (4, .ref (A1 7))]) hx hb dL_law_347 hl (by decide) rfl (fun ls hl => ?_)
  refine lv_aload_n hx hb dL_law_349 rfl (lv_at hl 5 rfl) ?_
  refine ki hw hA (rV hx hb hml hts hown hK hw (c_X6_thrown l (⟨rfl, sm_in (by omega)⟩ : TT w.2.1 5 3)) (⟨rfl, sm_in (by omega)⟩ : TT w.2.1 5 3) (by decide) rfl (mkV 0 hts k_ml_RL_101 k_im_yX6_thrown k_se_yX6_thrown k_in_RX6 k_co_yX6_thrown hd_X6_thrown ⟨Nat.le_of_ble_eq_true rfl, Nat.le_of_ble_eq_true rfl⟩) rfl hl.1 rfl (Nat.le_of_ble_eq_true rfl) dL_law_350 ⟨hcs.1, hcs.2⟩) (fun H locs hw => ?_)
  refine lv_iload hx hb dL_law_353 (lv_at hl 1 rfl) ?_
  refine lv_icmp_eq (tgt := 360) hx hb dL_law_355 (by decide) (fun hq => ?_) (fun hq => ?_)
  · rw [if_pos hq] at hm
    refine lv_iload hx hb dL_law_360 (lv_at hl 1 rfl) ?_
    refine lv_if_ne (tgt := 377) hx hb dL_law_362 (by decide) (fun hq0 => ?_) (fun hq0 => ?_)
    · rw [if_neg hq0] at hm
      cases Option.some.inj hm
      refine lv_goto (tgt := 1689) hx hb dL_law_377 (by decide) ?_
      exact kk A1 H locs ls hw (lv_sub hl [2, 3, 4, 5, 6, 7] rfl)
    · rw [if_pos hq0] at hm
      refine lv_aload_n hx hb dL_law_365 rfl (lv_at hl 6 rfl) ?_
      refine lv_iconst (v := 0) hx hb dL_law_366 rfl ?_
      refine gL hx hb hK hw dL_law_367 ?_
      refine lv_iload hx hb dL_law_368 (lv_at hl 0 rfl) ?_
      refine lv_i2l hx hb dL_law_370 rfl ?_
      refine lv_lcmp hx hb dL_law_371 (fun v hv => ?_)
      refine lv_if_eq (tgt := 377) hx hb dL_law_372 (by decide) (fun h0 => ?_) (fun h0 => ?_)
      · rw [if_pos (hv.mp h0)] at hm
        cases Option.some.inj hm
        refine lv_goto (tgt := 1689) hx hb dL_law_377 (by decide) ?_
        exact kk A1 H locs ls hw (lv_sub hl [2, 3, 4, 5, 6, 7] rfl)
      · rw [if_neg (fun h => h0 (hv.mpr h))] at hm
        cases hm
  · rw [if_neg hq] at hm
    cases hm
set_option maxHeartbeats 4000000 in
set_option maxRecDepth 100000 in
theorem k_law_4 {p : Program} {l : Launch} {e : Env} {s : State} {m : MethodId} {below : List Frame} {meth : Method} {c : Code} {H : Heap} {locs : List Loc} {cells slots : Nat} {Q : State → Prop} {D : va_G} {cy : Nat → ClassId} {A : Nat → Nat} {G G1 : Nat → Bool} {M M1 : Mem} {b L i : Nat} {xs : Nat → Int32} {ls : Array Slot} (C0 : LC p l s m c b L xs D cy) (hw : WD D cy (LAs s) A s.heap G M H locs) (hl : lv_has ls 8 [(5, .int (nI i)), (0, .ref b), (1, .ref (A 0)), (2, .ref (A 3)), (3, .ref (A 6)), (4, .ref (A 7))]) (hi : i + 4 ≤ L) (hcs : cells + 50 ≤ 601024 ∧ slots + 3520 ≤ 7293034) (hm : s_4  G M = some (G1, M1))
    (kk : ∀ (A1 : Nat → Nat) (H1 : Heap) (locs1 : List Loc) (ls1 : Array Slot), WD D cy (LAs s) A1 s.heap G1 M1 H1 locs1 → lv_has ls1 8 [(5, .int (nI i)), (0, .ref b), (1, .ref (A1 0)), (2, .ref (A1 3)), (3, .ref (A1 6)), (4, .ref (A1 7))] → W p l e room_1 s m #[Value.ref b] below meth c H1 locs1 (cells + 50) (slots + 3520) Q (F0 m 1689 ls1 [])) : W p l e room_1 s m #[Value.ref b] below meth c H locs cells slots Q (F0 m 380 ls []) := by
  obtain ⟨hx, hb, hml, hown, hts, hK, hR, hT, hN, hX, hbl, hL, hfl⟩ := C0
  have hA : ∀ q, s.heap.size ≤ q → LAs s q := fun _ h => h
  unfold s_4 at hm
  refine lv_aload_n hx hb dL_law_380 rfl (lv_at hl 2 rfl) ?_
  obtain ⟨w, e1, hm⟩ := Option.bind_eq_some_iff.mp hm
  refine kiG hw hA (rV hx hb hml hts hown hK hw (c_X5_deliverAll l (⟨rfl, sm_in (by omega)⟩ : TT G 4 0) e1) (⟨rfl, sm_in (by omega)⟩ : TT G 4 0) (by decide) rfl (mkV 0 hts k_ml_RL_114 k_im_yX5_deliverAll k_se_yX5_deliverAll k_in_RX5 k_co_yX5_deliverAll hd_X5_deliverAll ⟨Nat.le_of_ble_eq_true rfl, Nat.le_of_ble_eq_true rfl⟩) rfl hl.1 rfl (Nat.le_of_ble_eq_true rfl) dL_law_381 hcs) (fun A1 hAA H locs hw => ?_)
  have hl : lv_has ls 8 [(5, .int (nI i)), (0, .ref b), (1, .ref (A1 0)), (2, .ref (A1 3)), (3, .ref (A1 6)), (4, .ref (A1 7))] := by
    rw [(hAA 0 (sm_in (by omega))).1, (hAA 3 (sm_in (by omega))).1, (hAA 6 (sm_in (by omega))).1, (hAA 7 (sm_in (by omega))).1]
    exact hl
  refine lv_aload_n hx hb dL_law_384 rfl (lv_at hl 3 rfl) ?_
  obtain ⟨z, ez, hm⟩ := Option.bind_eq_some_iff.mp hm
  refine ki hw hA (rV hx hb hml hts hown hK hw (c_X6_deliverAll l (⟨rfl, sm_in (by omega)⟩ : TT w.2.1 5 3) ez) (⟨rfl, sm_in (by omega)⟩ : TT w.2.1 5 3) (by decide) rfl (mkV 0 hts k_ml_RL_117 k_im_yX6_deliverAll k_se_yX6_deliverAll k_in_RX6 k_co_yX6_deliverAll hd_X6_deliverAll ⟨Nat.le_of_ble_eq_true rfl, Nat.le_of_ble_eq_true rfl⟩) rfl hl.1 rfl (Nat.le_of_ble_eq_true rfl) dL_law_385 ⟨hcs.1, hcs.2⟩) (fun H locs hw => ?_)
  refine lv_icmp_eq (tgt := 1689) hx hb dL_law_388 (by decide) (fun hq => ?_) (fun hq => ?_)
  · rw [if_pos hq] at hm
    cases Option.some.inj hm
    exact kk A1 H locs ls hw (lv_sub hl [0, 1, 2, 3, 4, 5] rfl)
  · rw [if_neg hq] at hm
    cases hm
set_option maxHeartbeats 4000000 in
set_option maxRecDepth 100000 in
theorem k_law_5 {p : Program} {l : Launch} {e : Env} {s : State} {m : MethodId} {below : List Frame} {meth : Method} {c : Code} {H : Heap} {locs : List Loc} {cells slots : Nat} {Q : State → Prop} {D : va_G} {cy : Nat → ClassId} {A : Nat → Nat} {G G1 : Nat → Bool} {M M1 : Mem} {b L i : Nat} {xs : Nat → Int32} {ls : Array Slot} (C0 : LC p l s m c b L xs D cy) (hw : WD D cy (LAs s) A s.heap G M H locs) (hl : lv_has ls 8 [(5, .int (nI i)), (0, .ref b), (1, .ref (A 0)), (2, .ref (A 3)), (3, .ref (A 6)), (4, .ref (A 7))]) (hi : i + 4 ≤ L) (hcs : cells + 50 ≤ 601024 ∧ slots + 3520 ≤ 7293034) (hm : s_5 (xs (i + 1)) G M = some (G1, M1))
    (kk : ∀ (A1 : Nat → Nat) (H1 : Heap) (locs1 : List Loc) (ls1 : Array Slot), WD D cy (LAs s) A1 s.heap G1 M1 H1 locs1 → lv_has ls1 8 [(5, .int (nI i)), (0, .ref b), (1, .ref (A1 0)), (2, .ref (A1 3)), (3, .ref (A1 6)), (4, .ref (A1 7))] → W p l e room_1 s m #[Value.ref b] below meth c H1 locs1 (cells + 50) (slots + 3520) Q (F0 m 1689 ls1 [])) : W p l e room_1 s m #[Value.ref b] below meth c H locs cells slots Q (F0 m 393 ls []) := by
  obtain ⟨hx, hb, hml, hown, hts, hK, hR, hT, hN, hX, hbl, hL, hfl⟩ := C0
  have hA : ∀ q, s.heap.size ≤ q → LAs s q := fun _ h => h
  unfold s_5 at hm
  refine lv_aload_n hx hb dL_law_393 rfl (lv_at hl 2 rfl) ?_
  refine lv_aload_n hx hb dL_law_394 rfl (lv_at hl 1 rfl) ?_
  refine lv_iload hx hb dL_law_395 (lv_at hl 0 rfl) ?_
  refine lv_iconst (v := 1) hx hb dL_law_397 rfl ?_
  refine lv_iadd hx hb dL_law_398 ?_
  refine xl (k := 1) hx hb hX hbl hL hw rfl (by omega) dL_law_399 ?_
  refine lv_aload_n hx hb dL_law_400 rfl (lv_at hl 4 rfl) ?_
  obtain ⟨w, e1, hm⟩ := Option.bind_eq_some_iff.mp hm
  refine kW hx hb hml hts hown hK hR hT hN hA hw (c_L_inboxLength l hfl e1) (mkSW 3 hts k_ml_RL_118 k_st_yL_inboxLength k_in_RL k_cw_yL_inboxLength hd_L_inboxLength ⟨Nat.le_of_ble_eq_true rfl, Nat.le_of_ble_eq_true rfl⟩) rfl hl.1 rfl (Nat.le_of_ble_eq_true rfl) dL_law_401 ⟨Nat.le_trans (Nat.add_le_add_left (Nat.le_of_ble_eq_true rfl) _) hcs.1, Nat.le_trans (Nat.add_le_add_left (Nat.le_of_ble_eq_true rfl) _) hcs.2⟩ (fun A1 hAA H locs hw => ?_)
  refine kwid2 (mc := 4) (ms := 24) (Nat.le_of_ble_eq_true rfl) (Nat.le_of_ble_eq_true rfl) ?_
  have hl : lv_has ls 8 [(5, .int (nI i)), (0, .ref b), (1, .ref (A1 0)), (2, .ref (A1 3)), (3, .ref (A1 6)), (4, .ref (A1 7))] := by
    rw [(hAA 0 (sm_in (by omega))).1, (hAA 3 (sm_in (by omega))).1, (hAA 6 (sm_in (by omega))).1, (hAA 7 (sm_in (by omega))).1]
    exact hl
  refine lv_istore (lv' := [(6, .int w.1), (5, .int (nI i)), (0, .ref b), (1, .ref (A1 0)), (2, .ref (A1 3)), (3, .ref (A1 6)), (4, .ref (A1 7))]) hx hb dL_law_404 hl (by decide) rfl (fun ls hl => ?_)
  refine lv_aload_n hx hb dL_law_406 rfl (lv_at hl 4 rfl) ?_
  refine lv_aload_n hx hb dL_law_407 rfl (lv_at hl 2 rfl) ?_
  refine lv_iload hx hb dL_law_408 (lv_at hl 1 rfl) ?_
  refine lv_iconst (v := 1) hx hb dL_law_410 rfl ?_
  refine lv_iadd hx hb dL_law_411 ?_
  refine xl (k := 1) hx hb hX hbl hL hw rfl (by omega) dL_law_412 ?_
  obtain ⟨z, ez, hm⟩ := Option.bind_eq_some_iff.mp hm
  refine ki hw hA (rV hx hb hml hts hown hK hw (c_X6_inboxLength l (⟨rfl, sm_in (by omega)⟩ : TT w.2.1 5 3) ez) (⟨rfl, sm_in (by omega)⟩ : TT w.2.1 5 3) (by decide) rfl (mkV 1 hts k_ml_RL_120 k_im_yX6_inboxLength k_se_yX6_inboxLength k_in_RX6 k_co_yX6_inboxLength hd_X6_inboxLength ⟨Nat.le_of_ble_eq_true rfl, Nat.le_of_ble_eq_true rfl⟩) rfl hl.1 rfl (Nat.le_of_ble_eq_true rfl) dL_law_413 ⟨hcs.1, hcs.2⟩) (fun H locs hw => ?_)
  refine lv_istore (lv' := [(7, .int z.1), (6, .int w.1), (5, .int (nI i)), (0, .ref b), (1, .ref (A1 0)), (2, .ref (A1 3)), (3, .ref (A1 6)), (4, .ref (A1 7))]) hx hb dL_law_416 hl (by decide) rfl (fun ls hl => ?_)
  refine lv_aload_n hx hb dL_law_418 rfl (lv_at hl 5 rfl) ?_
  refine ki hw hA (rV hx hb hml hts hown hK hw (c_X6_thrown l (⟨rfl, sm_in (by omega)⟩ : TT w.2.1 5 3)) (⟨rfl, sm_in (by omega)⟩ : TT w.2.1 5 3) (by decide) rfl (mkV 0 hts k_ml_RL_101 k_im_yX6_thrown k_se_yX6_thrown k_in_RX6 k_co_yX6_thrown hd_X6_thrown ⟨Nat.le_of_ble_eq_true rfl, Nat.le_of_ble_eq_true rfl⟩) rfl hl.1 rfl (Nat.le_of_ble_eq_true rfl) dL_law_419 ⟨hcs.1, hcs.2⟩) (fun H locs hw => ?_)
  refine lv_iload hx hb dL_law_422 (lv_at hl 1 rfl) ?_
  refine lv_icmp_eq (tgt := 429) hx hb dL_law_424 (by decide) (fun hq => ?_) (fun hq => ?_)
  · rw [if_pos hq] at hm
    refine lv_iload hx hb dL_law_429 (lv_at hl 1 rfl) ?_
    refine lv_if_ne (tgt := 446) hx hb dL_law_431 (by decide) (fun hq0 => ?_) (fun hq0 => ?_)
    · rw [if_neg hq0] at hm
      cases Option.some.inj hm
      refine lv_goto (tgt := 1689) hx hb dL_law_446 (by decide) ?_
      exact kk A1 H locs ls hw (lv_sub hl [2, 3, 4, 5, 6, 7] rfl)
    · rw [if_pos hq0] at hm
      refine lv_aload_n hx hb dL_law_434 rfl (lv_at hl 6 rfl) ?_
      refine lv_iconst (v := 0) hx hb dL_law_435 rfl ?_
      refine gL hx hb hK hw dL_law_436 ?_
      refine lv_iload hx hb dL_law_437 (lv_at hl 0 rfl) ?_
      refine lv_i2l hx hb dL_law_439 rfl ?_
      refine lv_lcmp hx hb dL_law_440 (fun v hv => ?_)
      refine lv_if_eq (tgt := 446) hx hb dL_law_441 (by decide) (fun h0 => ?_) (fun h0 => ?_)
      · rw [if_pos (hv.mp h0)] at hm
        cases Option.some.inj hm
        refine lv_goto (tgt := 1689) hx hb dL_law_446 (by decide) ?_
        exact kk A1 H locs ls hw (lv_sub hl [2, 3, 4, 5, 6, 7] rfl)
      · rw [if_neg (fun h => h0 (hv.mpr h))] at hm
        cases hm
  · rw [if_neg hq] at hm
    cases hm
set_option maxHeartbeats 4000000 in
set_option maxRecDepth 100000 in
theorem k_law_6 {p : Program} {l : Launch} {e : Env} {s : State} {m : MethodId} {below : List Frame} {meth : Method} {c : Code} {H : Heap} {locs : List Loc} {cells slots : Nat} {Q : State → Prop} {D : va_G} {cy : Nat → ClassId} {A : Nat → Nat} {G G1 : Nat → Bool} {M M1 : Mem} {b L i : Nat} {xs : Nat → Int32} {ls : Array Slot} (C0 : LC p l s m c b L xs D cy) (hw : WD D cy (LAs s) A s.heap G M H locs) (hl : lv_has ls 8 [(5, .int (nI i)), (0, .ref b), (1, .ref (A 0)), (2, .ref (A 3)), (3, .ref (A 6)), (4, .ref (A 7))]) (hi : i + 4 ≤ L) (hcs : cells + 50 ≤ 601024 ∧ slots + 3520 ≤ 7293034) (hm : s_6 (xs (i + 1)) G M = some (G1, M1))
    (kk : ∀ (A1 : Nat → Nat) (H1 : Heap) (locs1 : List Loc) (ls1 : Array Slot), WD D cy (LAs s) A1 s.heap G1 M1 H1 locs1 → lv_has ls1 8 [(5, .int (nI i)), (0, .ref b), (1, .ref (A1 0)), (2, .ref (A1 3)), (3, .ref (A1 6)), (4, .ref (A1 7))] → W p l e room_1 s m #[Value.ref b] below meth c H1 locs1 (cells + 50) (slots + 3520) Q (F0 m 1689 ls1 [])) : W p l e room_1 s m #[Value.ref b] below meth c H locs cells slots Q (F0 m 449 ls []) := by
  obtain ⟨hx, hb, hml, hown, hts, hK, hR, hT, hN, hX, hbl, hL, hfl⟩ := C0
  have hA : ∀ q, s.heap.size ≤ q → LAs s q := fun _ h => h
  unfold s_6 at hm
  refine lv_aload_n hx hb dL_law_449 rfl (lv_at hl 2 rfl) ?_
  refine lv_aload_n hx hb dL_law_450 rfl (lv_at hl 1 rfl) ?_
  refine lv_iload hx hb dL_law_451 (lv_at hl 0 rfl) ?_
  refine lv_iconst (v := 1) hx hb dL_law_453 rfl ?_
  refine lv_iadd hx hb dL_law_454 ?_
  refine xl (k := 1) hx hb hX hbl hL hw rfl (by omega) dL_law_455 ?_
  refine lv_aload_n hx hb dL_law_456 rfl (lv_at hl 4 rfl) ?_
  obtain ⟨w, e1, hm⟩ := Option.bind_eq_some_iff.mp hm
  refine kW hx hb hml hts hown hK hR hT hN hA hw (c_L_weight l hfl e1) (mkSW 3 hts k_ml_RL_121 k_st_yL_weight k_in_RL k_cw_yL_weight hd_L_weight ⟨Nat.le_of_ble_eq_true rfl, Nat.le_of_ble_eq_true rfl⟩) rfl hl.1 rfl (Nat.le_of_ble_eq_true rfl) dL_law_457 ⟨Nat.le_trans (Nat.add_le_add_left (Nat.le_of_ble_eq_true rfl) _) hcs.1, Nat.le_trans (Nat.add_le_add_left (Nat.le_of_ble_eq_true rfl) _) hcs.2⟩ (fun A1 hAA H locs hw => ?_)
  refine kwid2 (mc := 4) (ms := 24) (Nat.le_of_ble_eq_true rfl) (Nat.le_of_ble_eq_true rfl) ?_
  have hl : lv_has ls 8 [(5, .int (nI i)), (0, .ref b), (1, .ref (A1 0)), (2, .ref (A1 3)), (3, .ref (A1 6)), (4, .ref (A1 7))] := by
    rw [(hAA 0 (sm_in (by omega))).1, (hAA 3 (sm_in (by omega))).1, (hAA 6 (sm_in (by omega))).1, (hAA 7 (sm_in (by omega))).1]
    exact hl
  refine lv_istore (lv' := [(6, .int w.1), (5, .int (nI i)), (0, .ref b), (1, .ref (A1 0)), (2, .ref (A1 3)), (3, .ref (A1 6)), (4, .ref (A1 7))]) hx hb dL_law_460 hl (by decide) rfl (fun ls hl => ?_)
  refine lv_aload_n hx hb dL_law_462 rfl (lv_at hl 4 rfl) ?_
  refine lv_aload_n hx hb dL_law_463 rfl (lv_at hl 2 rfl) ?_
  refine lv_iload hx hb dL_law_464 (lv_at hl 1 rfl) ?_
  refine lv_iconst (v := 1) hx hb dL_law_466 rfl ?_
  refine lv_iadd hx hb dL_law_467 ?_
  refine xl (k := 1) hx hb hX hbl hL hw rfl (by omega) dL_law_468 ?_
  obtain ⟨z, ez, hm⟩ := Option.bind_eq_some_iff.mp hm
  refine ki hw hA (rV hx hb hml hts hown hK hw (c_X6_weight l (⟨rfl, sm_in (by omega)⟩ : TT w.2.1 5 3) ez) (⟨rfl, sm_in (by omega)⟩ : TT w.2.1 5 3) (by decide) rfl (mkV 1 hts k_ml_RL_123 k_im_yX6_weight k_se_yX6_weight k_in_RX6 k_co_yX6_weight hd_X6_weight ⟨Nat.le_of_ble_eq_true rfl, Nat.le_of_ble_eq_true rfl⟩) rfl hl.1 rfl (Nat.le_of_ble_eq_true rfl) dL_law_469 ⟨hcs.1, hcs.2⟩) (fun H locs hw => ?_)
  refine lv_istore (lv' := [(7, .int z.1), (6, .int w.1), (5, .int (nI i)), (0, .ref b), (1, .ref (A1 0)), (2, .ref (A1 3)), (3, .ref (A1 6)), (4, .ref (A1 7))]) hx hb dL_law_472 hl (by decide) rfl (fun ls hl => ?_)
  refine lv_aload_n hx hb dL_law_474 rfl (lv_at hl 5 rfl) ?_
  refine ki hw hA (rV hx hb hml hts hown hK hw (c_X6_thrown l (⟨rfl, sm_in (by omega)⟩ : TT w.2.1 5 3)) (⟨rfl, sm_in (by omega)⟩ : TT w.2.1 5 3) (by decide) rfl (mkV 0 hts k_ml_RL_101 k_im_yX6_thrown k_se_yX6_thrown k_in_RX6 k_co_yX6_thrown hd_X6_thrown ⟨Nat.le_of_ble_eq_true rfl, Nat.le_of_ble_eq_true rfl⟩) rfl hl.1 rfl (Nat.le_of_ble_eq_true rfl) dL_law_475 ⟨hcs.1, hcs.2⟩) (fun H locs hw => ?_)
  refine lv_iload hx hb dL_law_478 (lv_at hl 1 rfl) ?_
  refine lv_icmp_eq (tgt := 485) hx hb dL_law_480 (by decide) (fun hq => ?_) (fun hq => ?_)
  · rw [if_pos hq] at hm
    refine lv_iload hx hb dL_law_485 (lv_at hl 1 rfl) ?_
    refine lv_if_ne (tgt := 502) hx hb dL_law_487 (by decide) (fun hq0 => ?_) (fun hq0 => ?_)
    · rw [if_neg hq0] at hm
      cases Option.some.inj hm
      refine lv_goto (tgt := 1689) hx hb dL_law_502 (by decide) ?_
      exact kk A1 H locs ls hw (lv_sub hl [2, 3, 4, 5, 6, 7] rfl)
    · rw [if_pos hq0] at hm
      refine lv_aload_n hx hb dL_law_490 rfl (lv_at hl 6 rfl) ?_
      refine lv_iconst (v := 0) hx hb dL_law_491 rfl ?_
      refine gL hx hb hK hw dL_law_492 ?_
      refine lv_iload hx hb dL_law_493 (lv_at hl 0 rfl) ?_
      refine lv_i2l hx hb dL_law_495 rfl ?_
      refine lv_lcmp hx hb dL_law_496 (fun v hv => ?_)
      refine lv_if_eq (tgt := 502) hx hb dL_law_497 (by decide) (fun h0 => ?_) (fun h0 => ?_)
      · rw [if_pos (hv.mp h0)] at hm
        cases Option.some.inj hm
        refine lv_goto (tgt := 1689) hx hb dL_law_502 (by decide) ?_
        exact kk A1 H locs ls hw (lv_sub hl [2, 3, 4, 5, 6, 7] rfl)
      · rw [if_neg (fun h => h0 (hv.mpr h))] at hm
        cases hm
  · rw [if_neg hq] at hm
    cases hm
set_option maxHeartbeats 4000000 in
set_option maxRecDepth 100000 in
theorem k_law_7 {p : Program} {l : Launch} {e : Env} {s : State} {m : MethodId} {below : List Frame} {meth : Method} {c : Code} {H : Heap} {locs : List Loc} {cells slots : Nat} {Q : State → Prop} {D : va_G} {cy : Nat → ClassId} {A : Nat → Nat} {G G1 : Nat → Bool} {M M1 : Mem} {b L i : Nat} {xs : Nat → Int32} {ls : Array Slot} (C0 : LC p l s m c b L xs D cy) (hw : WD D cy (LAs s) A s.heap G M H locs) (hl : lv_has ls 8 [(5, .int (nI i)), (0, .ref b), (1, .ref (A 0)), (2, .ref (A 3)), (3, .ref (A 6)), (4, .ref (A 7))]) (hi : i + 4 ≤ L) (hcs : cells + 50 ≤ 601024 ∧ slots + 3520 ≤ 7293034) (hm : s_7 (xs (i + 1)) G M = some (G1, M1))
    (kk : ∀ (A1 : Nat → Nat) (H1 : Heap) (locs1 : List Loc) (ls1 : Array Slot), WD D cy (LAs s) A1 s.heap G1 M1 H1 locs1 → lv_has ls1 8 [(5, .int (nI i)), (0, .ref b), (1, .ref (A1 0)), (2, .ref (A1 3)), (3, .ref (A1 6)), (4, .ref (A1 7))] → W p l e room_1 s m #[Value.ref b] below meth c H1 locs1 (cells + 50) (slots + 3520) Q (F0 m 1689 ls1 [])) : W p l e room_1 s m #[Value.ref b] below meth c H locs cells slots Q (F0 m 505 ls []) := by
  obtain ⟨hx, hb, hml, hown, hts, hK, hR, hT, hN, hX, hbl, hL, hfl⟩ := C0
  have hA : ∀ q, s.heap.size ≤ q → LAs s q := fun _ h => h
  unfold s_7 at hm
  refine lv_aload_n hx hb dL_law_505 rfl (lv_at hl 2 rfl) ?_
  refine lv_aload_n hx hb dL_law_506 rfl (lv_at hl 1 rfl) ?_
  refine lv_iload hx hb dL_law_507 (lv_at hl 0 rfl) ?_
  refine lv_iconst (v := 1) hx hb dL_law_509 rfl ?_
  refine lv_iadd hx hb dL_law_510 ?_
  refine xl (k := 1) hx hb hX hbl hL hw rfl (by omega) dL_law_511 ?_
  refine lv_aload hx hb dL_law_512 (lv_at hl 5 rfl) ?_
  obtain ⟨w, e1, hm⟩ := Option.bind_eq_some_iff.mp hm
  refine kW hx hb hml hts hown hK hR hT hN hA hw (c_L_share l hfl e1) (mkSW 3 hts k_ml_RL_124 k_st_yL_share k_in_RL k_cw_yL_share hd_L_share ⟨Nat.le_of_ble_eq_true rfl, Nat.le_of_ble_eq_true rfl⟩) rfl hl.1 rfl (Nat.le_of_ble_eq_true rfl) dL_law_514 ⟨Nat.le_trans (Nat.add_le_add_left (Nat.le_of_ble_eq_true rfl) _) hcs.1, Nat.le_trans (Nat.add_le_add_left (Nat.le_of_ble_eq_true rfl) _) hcs.2⟩ (fun A1 hAA H locs hw => ?_)
  refine kwid2 (mc := 4) (ms := 24) (Nat.le_of_ble_eq_true rfl) (Nat.le_of_ble_eq_true rfl) ?_
  have hl : lv_has ls 8 [(5, .int (nI i)), (0, .ref b), (1, .ref (A1 0)), (2, .ref (A1 3)), (3, .ref (A1 6)), (4, .ref (A1 7))] := by
    rw [(hAA 0 (sm_in (by omega))).1, (hAA 3 (sm_in (by omega))).1, (hAA 6 (sm_in (by omega))).1, (hAA 7 (sm_in (by omega))).1]
    exact hl
  refine lv_istore (lv' := [(6, .int w.1), (5, .int (nI i)), (0, .ref b), (1, .ref (A1 0)), (2, .ref (A1 3)), (3, .ref (A1 6)), (4, .ref (A1 7))]) hx hb dL_law_517 hl (by decide) rfl (fun ls hl => ?_)
  refine lv_aload_n hx hb dL_law_519 rfl (lv_at hl 4 rfl) ?_
  refine lv_aload_n hx hb dL_law_520 rfl (lv_at hl 2 rfl) ?_
  refine lv_iload hx hb dL_law_521 (lv_at hl 1 rfl) ?_
  refine lv_iconst (v := 1) hx hb dL_law_523 rfl ?_
  refine lv_iadd hx hb dL_law_524 ?_
  refine xl (k := 1) hx hb hX hbl hL hw rfl (by omega) dL_law_525 ?_
  obtain ⟨z, ez, hm⟩ := Option.bind_eq_some_iff.mp hm
  refine kf hw hA (rV hx hb hml hts hown hK hw (c_X6_share l (⟨rfl, sm_in (by omega)⟩ : TT w.2.1 5 3) ez) (⟨rfl, sm_in (by omega)⟩ : TT w.2.1 5 3) (by decide) rfl (mkV 1 hts k_ml_RL_127 k_im_yX6_share k_se_yX6_share k_in_RX6 k_co_yX6_share hd_X6_share ⟨Nat.le_of_ble_eq_true rfl, Nat.le_of_ble_eq_true rfl⟩) rfl hl.1 rfl (Nat.le_of_ble_eq_true rfl) dL_law_526 ⟨hcs.1, hcs.2⟩) (fun H locs hw => ?_)
  refine lv_fstore (lv' := [(7, .float z.1), (6, .int w.1), (5, .int (nI i)), (0, .ref b), (1, .ref (A1 0)), (2, .ref (A1 3)), (3, .ref (A1 6)), (4, .ref (A1 7))]) hx hb dL_law_529 hl (by decide) rfl (fun ls hl => ?_)
  refine lv_aload_n hx hb dL_law_531 rfl (lv_at hl 5 rfl) ?_
  refine ki hw hA (rV hx hb hml hts hown hK hw (c_X6_thrown l (⟨rfl, sm_in (by omega)⟩ : TT w.2.1 5 3)) (⟨rfl, sm_in (by omega)⟩ : TT w.2.1 5 3) (by decide) rfl (mkV 0 hts k_ml_RL_101 k_im_yX6_thrown k_se_yX6_thrown k_in_RX6 k_co_yX6_thrown hd_X6_thrown ⟨Nat.le_of_ble_eq_true rfl, Nat.le_of_ble_eq_true rfl⟩) rfl hl.1 rfl (Nat.le_of_ble_eq_true rfl) dL_law_532 ⟨hcs.1, hcs.2⟩) (fun H locs hw => ?_)
  refine lv_iload hx hb dL_law_535 (lv_at hl 1 rfl) ?_
  refine lv_icmp_eq (tgt := 542) hx hb dL_law_537 (by decide) (fun hq => ?_) (fun hq => ?_)
  · rw [if_pos hq] at hm
    refine lv_iload hx hb dL_law_542 (lv_at hl 1 rfl) ?_
    refine lv_if_ne (tgt := 580) hx hb dL_law_544 (by decide) (fun hq0 => ?_) (fun hq0 => ?_)
    · rw [if_neg hq0] at hm
      cases Option.some.inj hm
      refine lv_goto (tgt := 1689) hx hb dL_law_580 (by decide) ?_
      exact kk A1 H locs ls hw (lv_sub hl [2, 3, 4, 5, 6, 7] rfl)
    · rw [if_pos hq0] at hm
      refine lv_aload hx hb dL_law_547 (lv_at hl 7 rfl) ?_
      refine lv_iconst (v := 0) hx hb dL_law_549 rfl ?_
      refine gD hx hb hK hw dL_law_550 ?_
      refine lv_fload hx hb dL_law_551 (lv_at hl 0 rfl) ?_
      obtain ⟨hn, hm⟩ := ck_some hm
      refine lv_f2d hx hb dL_law_553 hn ?_
      refine lv_dcmp hx hb dL_law_554 ?_
      refine lv_if_eq (tgt := 580) hx hb dL_law_555 (by decide) (fun h0 => ?_) (fun h0 => ?_)
      · rw [if_pos (h0)] at hm
        cases Option.some.inj hm
        refine lv_goto (tgt := 1689) hx hb dL_law_580 (by decide) ?_
        exact kk A1 H locs ls hw (lv_sub hl [2, 3, 4, 5, 6, 7] rfl)
      · rw [if_neg h0] at hm
        cases hm
  · rw [if_neg hq] at hm
    cases hm
set_option maxHeartbeats 4000000 in
set_option maxRecDepth 100000 in
theorem k_law_8 {p : Program} {l : Launch} {e : Env} {s : State} {m : MethodId} {below : List Frame} {meth : Method} {c : Code} {H : Heap} {locs : List Loc} {cells slots : Nat} {Q : State → Prop} {D : va_G} {cy : Nat → ClassId} {A : Nat → Nat} {G G1 : Nat → Bool} {M M1 : Mem} {b L i : Nat} {xs : Nat → Int32} {ls : Array Slot} (C0 : LC p l s m c b L xs D cy) (hw : WD D cy (LAs s) A s.heap G M H locs) (hl : lv_has ls 8 [(5, .int (nI i)), (0, .ref b), (1, .ref (A 0)), (2, .ref (A 3)), (3, .ref (A 6)), (4, .ref (A 7))]) (hi : i + 4 ≤ L) (hcs : cells + 50 ≤ 601024 ∧ slots + 3520 ≤ 7293034) (hm : s_8 (xs (i + 1)) (xs (i + 2)) G M = some (G1, M1))
    (kk : ∀ (A1 : Nat → Nat) (H1 : Heap) (locs1 : List Loc) (ls1 : Array Slot), WD D cy (LAs s) A1 s.heap G1 M1 H1 locs1 → lv_has ls1 8 [(5, .int (nI i)), (0, .ref b), (1, .ref (A1 0)), (2, .ref (A1 3)), (3, .ref (A1 6)), (4, .ref (A1 7))] → W p l e room_1 s m #[Value.ref b] below meth c H1 locs1 (cells + 50) (slots + 3520) Q (F0 m 1689 ls1 [])) : W p l e room_1 s m #[Value.ref b] below meth c H locs cells slots Q (F0 m 583 ls []) := by
  obtain ⟨hx, hb, hml, hown, hts, hK, hR, hT, hN, hX, hbl, hL, hfl⟩ := C0
  have hA : ∀ q, s.heap.size ≤ q → LAs s q := fun _ h => h
  unfold s_8 at hm
  refine lv_aload_n hx hb dL_law_583 rfl (lv_at hl 2 rfl) ?_
  refine lv_aload_n hx hb dL_law_584 rfl (lv_at hl 1 rfl) ?_
  refine lv_iload hx hb dL_law_585 (lv_at hl 0 rfl) ?_
  refine lv_iconst (v := 1) hx hb dL_law_587 rfl ?_
  refine lv_iadd hx hb dL_law_588 ?_
  refine xl (k := 1) hx hb hX hbl hL hw rfl (by omega) dL_law_589 ?_
  refine lv_aload_n hx hb dL_law_590 rfl (lv_at hl 1 rfl) ?_
  refine lv_iload hx hb dL_law_591 (lv_at hl 0 rfl) ?_
  refine lv_iconst (v := 2) hx hb dL_law_593 rfl ?_
  refine lv_iadd hx hb dL_law_594 ?_
  refine xl (k := 2) hx hb hX hbl hL hw rfl (by omega) dL_law_595 ?_
  refine lv_aload_n hx hb dL_law_596 rfl (lv_at hl 4 rfl) ?_
  obtain ⟨w, e1, hm⟩ := Option.bind_eq_some_iff.mp hm
  refine kW hx hb hml hts hown hK hR hT hN hA hw (c_L_isFenced l hfl e1) (mkSW 4 hts k_ml_RL_128 k_st_yL_isFenced k_in_RL k_cw_yL_isFenced hd_L_isFenced ⟨Nat.le_of_ble_eq_true rfl, Nat.le_of_ble_eq_true rfl⟩) rfl hl.1 rfl (Nat.le_of_ble_eq_true rfl) dL_law_597 ⟨Nat.le_trans (Nat.add_le_add_left (Nat.le_of_ble_eq_true rfl) _) hcs.1, Nat.le_trans (Nat.add_le_add_left (Nat.le_of_ble_eq_true rfl) _) hcs.2⟩ (fun A1 hAA H locs hw => ?_)
  refine kwid2 (mc := 4) (ms := 24) (Nat.le_of_ble_eq_true rfl) (Nat.le_of_ble_eq_true rfl) ?_
  have hl : lv_has ls 8 [(5, .int (nI i)), (0, .ref b), (1, .ref (A1 0)), (2, .ref (A1 3)), (3, .ref (A1 6)), (4, .ref (A1 7))] := by
    rw [(hAA 0 (sm_in (by omega))).1, (hAA 3 (sm_in (by omega))).1, (hAA 6 (sm_in (by omega))).1, (hAA 7 (sm_in (by omega))).1]
    exact hl
  refine lv_istore (lv' := [(6, .int w.1), (5, .int (nI i)), (0, .ref b), (1, .ref (A1 0)), (2, .ref (A1 3)), (3, .ref (A1 6)), (4, .ref (A1 7))]) hx hb dL_law_600 hl (by decide) rfl (fun ls hl => ?_)
  refine lv_aload_n hx hb dL_law_602 rfl (lv_at hl 4 rfl) ?_
  refine lv_aload_n hx hb dL_law_603 rfl (lv_at hl 2 rfl) ?_
  refine lv_iload hx hb dL_law_604 (lv_at hl 1 rfl) ?_
  refine lv_iconst (v := 1) hx hb dL_law_606 rfl ?_
  refine lv_iadd hx hb dL_law_607 ?_
  refine xl (k := 1) hx hb hX hbl hL hw rfl (by omega) dL_law_608 ?_
  refine lv_aload_n hx hb dL_law_609 rfl (lv_at hl 2 rfl) ?_
  refine lv_iload hx hb dL_law_610 (lv_at hl 1 rfl) ?_
  refine lv_iconst (v := 2) hx hb dL_law_612 rfl ?_
  refine lv_iadd hx hb dL_law_613 ?_
  refine xl (k := 2) hx hb hX hbl hL hw rfl (by omega) dL_law_614 ?_
  obtain ⟨z, ez, hm⟩ := Option.bind_eq_some_iff.mp hm
  refine ki hw hA (rV hx hb hml hts hown hK hw (c_X6_isFenced l (⟨rfl, sm_in (by omega)⟩ : TT w.2.1 5 3) ez) (⟨rfl, sm_in (by omega)⟩ : TT w.2.1 5 3) (by decide) rfl (mkV 2 hts k_ml_RL_131 k_im_yX6_isFenced k_se_yX6_isFenced k_in_RX6 k_co_yX6_isFenced hd_X6_isFenced ⟨Nat.le_of_ble_eq_true rfl, Nat.le_of_ble_eq_true rfl⟩) rfl hl.1 rfl (Nat.le_of_ble_eq_true rfl) dL_law_615 ⟨hcs.1, hcs.2⟩) (fun H locs hw => ?_)
  refine lv_istore (lv' := [(7, .int z.1), (6, .int w.1), (5, .int (nI i)), (0, .ref b), (1, .ref (A1 0)), (2, .ref (A1 3)), (3, .ref (A1 6)), (4, .ref (A1 7))]) hx hb dL_law_618 hl (by decide) rfl (fun ls hl => ?_)
  refine lv_aload_n hx hb dL_law_620 rfl (lv_at hl 5 rfl) ?_
  refine ki hw hA (rV hx hb hml hts hown hK hw (c_X6_thrown l (⟨rfl, sm_in (by omega)⟩ : TT w.2.1 5 3)) (⟨rfl, sm_in (by omega)⟩ : TT w.2.1 5 3) (by decide) rfl (mkV 0 hts k_ml_RL_101 k_im_yX6_thrown k_se_yX6_thrown k_in_RX6 k_co_yX6_thrown hd_X6_thrown ⟨Nat.le_of_ble_eq_true rfl, Nat.le_of_ble_eq_true rfl⟩) rfl hl.1 rfl (Nat.le_of_ble_eq_true rfl) dL_law_621 ⟨hcs.1, hcs.2⟩) (fun H locs hw => ?_)
  refine lv_iload hx hb dL_law_624 (lv_at hl 1 rfl) ?_
  refine lv_icmp_eq (tgt := 631) hx hb dL_law_626 (by decide) (fun hq => ?_) (fun hq => ?_)
  · rw [if_pos hq] at hm
    refine lv_iload hx hb dL_law_631 (lv_at hl 1 rfl) ?_
    refine lv_if_ne (tgt := 655) hx hb dL_law_633 (by decide) (fun hq0 => ?_) (fun hq0 => ?_)
    · rw [if_neg hq0] at hm
      cases Option.some.inj hm
      refine lv_goto (tgt := 1689) hx hb dL_law_655 (by decide) ?_
      exact kk A1 H locs ls hw (lv_sub hl [2, 3, 4, 5, 6, 7] rfl)
    · rw [if_pos hq0] at hm
      refine lv_aload_n hx hb dL_law_636 rfl (lv_at hl 6 rfl) ?_
      refine lv_iconst (v := 0) hx hb dL_law_637 rfl ?_
      refine gL hx hb hK hw dL_law_638 ?_
      refine lv_iload hx hb dL_law_639 (lv_at hl 0 rfl) ?_
      refine lv_if_eq (tgt := 648) hx hb dL_law_641 (by decide) (fun h0 => ?_) (fun h0 => ?_)
      · rw [show i2 z.1 = 0 from if_pos h0] at hm
        refine lv_lconst (v := 0) hx hb dL_law_648 rfl ?_
        refine lv_lcmp hx hb dL_law_649 (fun v hv => ?_)
        refine lv_if_eq (tgt := 655) hx hb dL_law_650 (by decide) (fun h0 => ?_) (fun h0 => ?_)
        · rw [if_pos (hv.mp h0)] at hm
          cases Option.some.inj hm
          refine lv_goto (tgt := 1689) hx hb dL_law_655 (by decide) ?_
          exact kk A1 H locs ls hw (lv_sub hl [2, 3, 4, 5, 6, 7] rfl)
        · rw [if_neg (fun h => h0 (hv.mpr h))] at hm
          cases hm
      · rw [show i2 z.1 = 1 from if_neg h0] at hm
        refine lv_lconst (v := 1) hx hb dL_law_644 rfl ?_
        refine lv_goto (tgt := 649) hx hb dL_law_645 (by decide) ?_
        refine lv_lcmp hx hb dL_law_649 (fun v hv => ?_)
        refine lv_if_eq (tgt := 655) hx hb dL_law_650 (by decide) (fun h0 => ?_) (fun h0 => ?_)
        · rw [if_pos (hv.mp h0)] at hm
          cases Option.some.inj hm
          refine lv_goto (tgt := 1689) hx hb dL_law_655 (by decide) ?_
          exact kk A1 H locs ls hw (lv_sub hl [2, 3, 4, 5, 6, 7] rfl)
        · rw [if_neg (fun h => h0 (hv.mpr h))] at hm
          cases hm
  · rw [if_neg hq] at hm
    cases hm
set_option maxHeartbeats 4000000 in
set_option maxRecDepth 100000 in
theorem k_law_9 {p : Program} {l : Launch} {e : Env} {s : State} {m : MethodId} {below : List Frame} {meth : Method} {c : Code} {H : Heap} {locs : List Loc} {cells slots : Nat} {Q : State → Prop} {D : va_G} {cy : Nat → ClassId} {A : Nat → Nat} {G G1 : Nat → Bool} {M M1 : Mem} {b L i : Nat} {xs : Nat → Int32} {ls : Array Slot} (C0 : LC p l s m c b L xs D cy) (hw : WD D cy (LAs s) A s.heap G M H locs) (hl : lv_has ls 8 [(5, .int (nI i)), (0, .ref b), (1, .ref (A 0)), (2, .ref (A 3)), (3, .ref (A 6)), (4, .ref (A 7))]) (hi : i + 4 ≤ L) (hcs : cells + 50 ≤ 601024 ∧ slots + 3520 ≤ 7293034) (hm : s_9  G M = some (G1, M1))
    (kk : ∀ (A1 : Nat → Nat) (H1 : Heap) (locs1 : List Loc) (ls1 : Array Slot), WD D cy (LAs s) A1 s.heap G1 M1 H1 locs1 → lv_has ls1 8 [(5, .int (nI i)), (0, .ref b), (1, .ref (A1 0)), (2, .ref (A1 3)), (3, .ref (A1 6)), (4, .ref (A1 7))] → W p l e room_1 s m #[Value.ref b] below meth c H1 locs1 (cells + 50) (slots + 3520) Q (F0 m 1689 ls1 [])) : W p l e room_1 s m #[Value.ref b] below meth c H locs cells slots Q (F0 m 658 ls []) := by
  obtain ⟨hx, hb, hml, hown, hts, hK, hR, hT, hN, hX, hbl, hL, hfl⟩ := C0
  have hA : ∀ q, s.heap.size ≤ q → LAs s q := fun _ h => h
  unfold s_9 at hm
  refine lv_aload_n hx hb dL_law_658 rfl (lv_at hl 2 rfl) ?_
  refine ki hw hA (rV hx hb hml hts hown hK hw (c_X5_rejections l (⟨rfl, sm_in (by omega)⟩ : TT G 4 0)) (⟨rfl, sm_in (by omega)⟩ : TT G 4 0) (by decide) rfl (mkV 0 hts k_ml_RL_132 k_im_yX5_rejections k_se_yX5_rejections k_in_RX5 k_co_yX5_rejections hd_X5_rejections ⟨Nat.le_of_ble_eq_true rfl, Nat.le_of_ble_eq_true rfl⟩) rfl hl.1 rfl (Nat.le_of_ble_eq_true rfl) dL_law_659 ⟨kle hcs.1, kle hcs.2⟩) (fun H locs hw => ?_)
  refine lv_aload_n hx hb dL_law_662 rfl (lv_at hl 3 rfl) ?_
  obtain ⟨z, ez, hm⟩ := Option.bind_eq_some_iff.mp hm
  refine ki hw hA (rV hx hb hml hts hown hK hw (c_X6_rejections l (⟨rfl, sm_in (by omega)⟩ : TT G 5 3) ez) (⟨rfl, sm_in (by omega)⟩ : TT G 5 3) (by decide) rfl (mkV 0 hts k_ml_RL_135 k_im_yX6_rejections k_se_yX6_rejections k_in_RX6 k_co_yX6_rejections hd_X6_rejections ⟨Nat.le_of_ble_eq_true rfl, Nat.le_of_ble_eq_true rfl⟩) rfl hl.1 rfl (Nat.le_of_ble_eq_true rfl) dL_law_663 ⟨kle hcs.1, kle hcs.2⟩) (fun H locs hw => ?_)
  refine lv_icmp_eq (tgt := 1689) hx hb dL_law_666 (by decide) (fun hq => ?_) (fun hq => ?_)
  · rw [if_pos hq] at hm
    cases Option.some.inj hm
    exact kwid (kk A H locs ls hw (lv_sub hl [0, 1, 2, 3, 4, 5] rfl))
  · rw [if_neg hq] at hm
    cases hm
set_option maxHeartbeats 4000000 in
set_option maxRecDepth 100000 in
theorem k_law_10 {p : Program} {l : Launch} {e : Env} {s : State} {m : MethodId} {below : List Frame} {meth : Method} {c : Code} {H : Heap} {locs : List Loc} {cells slots : Nat} {Q : State → Prop} {D : va_G} {cy : Nat → ClassId} {A : Nat → Nat} {G G1 : Nat → Bool} {M M1 : Mem} {b L i : Nat} {xs : Nat → Int32} {ls : Array Slot} (C0 : LC p l s m c b L xs D cy) (hw : WD D cy (LAs s) A s.heap G M H locs) (hl : lv_has ls 8 [(5, .int (nI i)), (0, .ref b), (1, .ref (A 0)), (2, .ref (A 3)), (3, .ref (A 6)), (4, .ref (A 7))]) (hi : i + 4 ≤ L) (hcs : cells + 50 ≤ 601024 ∧ slots + 3520 ≤ 7293034) (hm : s_10 (xs (i + 1)) (xs (i + 2)) (xs (i + 3)) G M = some (G1, M1))
    (kk : ∀ (A1 : Nat → Nat) (H1 : Heap) (locs1 : List Loc) (ls1 : Array Slot), WD D cy (LAs s) A1 s.heap G1 M1 H1 locs1 → lv_has ls1 8 [(5, .int (nI i)), (0, .ref b), (1, .ref (A1 0)), (2, .ref (A1 3)), (3, .ref (A1 6)), (4, .ref (A1 7))] → W p l e room_1 s m #[Value.ref b] below meth c H1 locs1 (cells + 50) (slots + 3520) Q (F0 m 1689 ls1 [])) : W p l e room_1 s m #[Value.ref b] below meth c H locs cells slots Q (F0 m 671 ls []) := by
  obtain ⟨hx, hb, hml, hown, hts, hK, hR, hT, hN, hX, hbl, hL, hfl⟩ := C0
  have hA : ∀ q, s.heap.size ≤ q → LAs s q := fun _ h => h
  unfold s_10 at hm
  refine lv_aload_n hx hb dL_law_671 rfl (lv_at hl 2 rfl) ?_
  refine lv_aload_n hx hb dL_law_672 rfl (lv_at hl 1 rfl) ?_
  refine lv_iload hx hb dL_law_673 (lv_at hl 0 rfl) ?_
  refine lv_iconst (v := 1) hx hb dL_law_675 rfl ?_
  refine lv_iadd hx hb dL_law_676 ?_
  refine xl (k := 1) hx hb hX hbl hL hw rfl (by omega) dL_law_677 ?_
  refine lv_aload_n hx hb dL_law_678 rfl (lv_at hl 1 rfl) ?_
  refine lv_iload hx hb dL_law_679 (lv_at hl 0 rfl) ?_
  refine lv_iconst (v := 2) hx hb dL_law_681 rfl ?_
  refine lv_iadd hx hb dL_law_682 ?_
  refine xl (k := 2) hx hb hX hbl hL hw rfl (by omega) dL_law_683 ?_
  refine lv_aload_n hx hb dL_law_684 rfl (lv_at hl 1 rfl) ?_
  refine lv_iload hx hb dL_law_685 (lv_at hl 0 rfl) ?_
  refine lv_iconst (v := 3) hx hb dL_law_687 rfl ?_
  refine lv_iadd hx hb dL_law_688 ?_
  refine xl (k := 3) hx hb hX hbl hL hw rfl (by omega) dL_law_689 ?_
  refine lv_aload_n hx hb dL_law_690 rfl (lv_at hl 4 rfl) ?_
  obtain ⟨w, e1, hm⟩ := Option.bind_eq_some_iff.mp hm
  refine kW hx hb hml hts hown hK hR hT hN hA hw (c_L_createLedger l hfl e1) (mkSW 5 hts k_ml_RL_136 k_st_yL_createLedger k_in_RL k_cw_yL_createLedger hd_L_createLedger ⟨Nat.le_of_ble_eq_true rfl, Nat.le_of_ble_eq_true rfl⟩) rfl hl.1 rfl (Nat.le_of_ble_eq_true rfl) dL_law_691 ⟨Nat.le_trans (Nat.add_le_add_left (Nat.le_of_ble_eq_true rfl) _) hcs.1, Nat.le_trans (Nat.add_le_add_left (Nat.le_of_ble_eq_true rfl) _) hcs.2⟩ (fun A1 hAA H locs hw => ?_)
  have hl : lv_has ls 8 [(5, .int (nI i)), (0, .ref b), (1, .ref (A1 0)), (2, .ref (A1 3)), (3, .ref (A1 6)), (4, .ref (A1 7))] := by
    rw [(hAA 0 (sm_in (by omega))).1, (hAA 3 (sm_in (by omega))).1, (hAA 6 (sm_in (by omega))).1, (hAA 7 (sm_in (by omega))).1]
    exact hl
  refine lv_istore (lv' := [(6, .int w.1), (5, .int (nI i)), (0, .ref b), (1, .ref (A1 0)), (2, .ref (A1 3)), (3, .ref (A1 6)), (4, .ref (A1 7))]) hx hb dL_law_694 hl (by decide) rfl (fun ls hl => ?_)
  refine lv_aload_n hx hb dL_law_696 rfl (lv_at hl 4 rfl) ?_
  refine lv_aload_n hx hb dL_law_697 rfl (lv_at hl 2 rfl) ?_
  refine lv_iload hx hb dL_law_698 (lv_at hl 1 rfl) ?_
  refine lv_iconst (v := 1) hx hb dL_law_700 rfl ?_
  refine lv_iadd hx hb dL_law_701 ?_
  refine xl (k := 1) hx hb hX hbl hL hw rfl (by omega) dL_law_702 ?_
  refine lv_aload_n hx hb dL_law_703 rfl (lv_at hl 2 rfl) ?_
  refine lv_iload hx hb dL_law_704 (lv_at hl 1 rfl) ?_
  refine lv_iconst (v := 2) hx hb dL_law_706 rfl ?_
  refine lv_iadd hx hb dL_law_707 ?_
  refine xl (k := 2) hx hb hX hbl hL hw rfl (by omega) dL_law_708 ?_
  refine lv_aload_n hx hb dL_law_709 rfl (lv_at hl 2 rfl) ?_
  refine lv_iload hx hb dL_law_710 (lv_at hl 1 rfl) ?_
  refine lv_iconst (v := 3) hx hb dL_law_712 rfl ?_
  refine lv_iadd hx hb dL_law_713 ?_
  refine xl (k := 3) hx hb hX hbl hL hw rfl (by omega) dL_law_714 ?_
  obtain ⟨z, ez, hm⟩ := Option.bind_eq_some_iff.mp hm
  refine ki hw hA (rV hx hb hml hts hown hK hw (c_X6_createLedger l (⟨rfl, sm_in (by omega)⟩ : TT w.2.1 5 3) ez) (⟨rfl, sm_in (by omega)⟩ : TT w.2.1 5 3) (by decide) rfl (mkV 3 hts k_ml_RL_139 k_im_yX6_createLedger k_se_yX6_createLedger k_in_RX6 k_co_yX6_createLedger hd_X6_createLedger ⟨Nat.le_of_ble_eq_true rfl, Nat.le_of_ble_eq_true rfl⟩) rfl hl.1 rfl (Nat.le_of_ble_eq_true rfl) dL_law_715 ⟨hcs.1, hcs.2⟩) (fun H locs hw => ?_)
  refine lv_istore (lv' := [(7, .int z.1), (6, .int w.1), (5, .int (nI i)), (0, .ref b), (1, .ref (A1 0)), (2, .ref (A1 3)), (3, .ref (A1 6)), (4, .ref (A1 7))]) hx hb dL_law_718 hl (by decide) rfl (fun ls hl => ?_)
  refine lv_aload_n hx hb dL_law_720 rfl (lv_at hl 5 rfl) ?_
  refine ki hw hA (rV hx hb hml hts hown hK hw (c_X6_thrown l (⟨rfl, sm_in (by omega)⟩ : TT w.2.1 5 3)) (⟨rfl, sm_in (by omega)⟩ : TT w.2.1 5 3) (by decide) rfl (mkV 0 hts k_ml_RL_101 k_im_yX6_thrown k_se_yX6_thrown k_in_RX6 k_co_yX6_thrown hd_X6_thrown ⟨Nat.le_of_ble_eq_true rfl, Nat.le_of_ble_eq_true rfl⟩) rfl hl.1 rfl (Nat.le_of_ble_eq_true rfl) dL_law_721 ⟨hcs.1, hcs.2⟩) (fun H locs hw => ?_)
  refine lv_iload hx hb dL_law_724 (lv_at hl 1 rfl) ?_
  refine lv_icmp_eq (tgt := 731) hx hb dL_law_726 (by decide) (fun hq => ?_) (fun hq => ?_)
  · rw [if_pos hq] at hm
    refine lv_iload hx hb dL_law_731 (lv_at hl 1 rfl) ?_
    refine lv_if_ne (tgt := 748) hx hb dL_law_733 (by decide) (fun hq0 => ?_) (fun hq0 => ?_)
    · rw [if_neg hq0] at hm
      cases Option.some.inj hm
      refine lv_goto (tgt := 1689) hx hb dL_law_748 (by decide) ?_
      exact kk A1 H locs ls hw (lv_sub hl [2, 3, 4, 5, 6, 7] rfl)
    · rw [if_pos hq0] at hm
      refine lv_aload_n hx hb dL_law_736 rfl (lv_at hl 6 rfl) ?_
      refine lv_iconst (v := 0) hx hb dL_law_737 rfl ?_
      refine gL hx hb hK hw dL_law_738 ?_
      refine lv_iload hx hb dL_law_739 (lv_at hl 0 rfl) ?_
      refine lv_i2l hx hb dL_law_741 rfl ?_
      refine lv_lcmp hx hb dL_law_742 (fun v hv => ?_)
      refine lv_if_eq (tgt := 748) hx hb dL_law_743 (by decide) (fun h0 => ?_) (fun h0 => ?_)
      · rw [if_pos (hv.mp h0)] at hm
        cases Option.some.inj hm
        refine lv_goto (tgt := 1689) hx hb dL_law_748 (by decide) ?_
        exact kk A1 H locs ls hw (lv_sub hl [2, 3, 4, 5, 6, 7] rfl)
      · rw [if_neg (fun h => h0 (hv.mpr h))] at hm
        cases hm
  · rw [if_neg hq] at hm
    cases hm
set_option maxHeartbeats 4000000 in
set_option maxRecDepth 100000 in
theorem k_law_11 {p : Program} {l : Launch} {e : Env} {s : State} {m : MethodId} {below : List Frame} {meth : Method} {c : Code} {H : Heap} {locs : List Loc} {cells slots : Nat} {Q : State → Prop} {D : va_G} {cy : Nat → ClassId} {A : Nat → Nat} {G G1 : Nat → Bool} {M M1 : Mem} {b L i : Nat} {xs : Nat → Int32} {ls : Array Slot} (C0 : LC p l s m c b L xs D cy) (hw : WD D cy (LAs s) A s.heap G M H locs) (hl : lv_has ls 8 [(5, .int (nI i)), (0, .ref b), (1, .ref (A 0)), (2, .ref (A 3)), (3, .ref (A 6)), (4, .ref (A 7))]) (hi : i + 4 ≤ L) (hcs : cells + 50 ≤ 601024 ∧ slots + 3520 ≤ 7293034) (hm : s_11 (xs (i + 1)) (xs (i + 2)) G M = some (G1, M1))
    (kk : ∀ (A1 : Nat → Nat) (H1 : Heap) (locs1 : List Loc) (ls1 : Array Slot), WD D cy (LAs s) A1 s.heap G1 M1 H1 locs1 → lv_has ls1 8 [(5, .int (nI i)), (0, .ref b), (1, .ref (A1 0)), (2, .ref (A1 3)), (3, .ref (A1 6)), (4, .ref (A1 7))] → W p l e room_1 s m #[Value.ref b] below meth c H1 locs1 (cells + 50) (slots + 3520) Q (F0 m 1689 ls1 [])) : W p l e room_1 s m #[Value.ref b] below meth c H locs cells slots Q (F0 m 751 ls []) := by
  obtain ⟨hx, hb, hml, hown, hts, hK, hR, hT, hN, hX, hbl, hL, hfl⟩ := C0
  have hA : ∀ q, s.heap.size ≤ q → LAs s q := fun _ h => h
  unfold s_11 at hm
  refine lv_aload_n hx hb dL_law_751 rfl (lv_at hl 2 rfl) ?_
  refine lv_aload_n hx hb dL_law_752 rfl (lv_at hl 1 rfl) ?_
  refine lv_iload hx hb dL_law_753 (lv_at hl 0 rfl) ?_
  refine lv_iconst (v := 1) hx hb dL_law_755 rfl ?_
  refine lv_iadd hx hb dL_law_756 ?_
  refine xl (k := 1) hx hb hX hbl hL hw rfl (by omega) dL_law_757 ?_
  refine lv_aload_n hx hb dL_law_758 rfl (lv_at hl 1 rfl) ?_
  refine lv_iload hx hb dL_law_759 (lv_at hl 0 rfl) ?_
  refine lv_iconst (v := 2) hx hb dL_law_761 rfl ?_
  refine lv_iadd hx hb dL_law_762 ?_
  refine xl (k := 2) hx hb hX hbl hL hw rfl (by omega) dL_law_763 ?_
  refine lv_aload_n hx hb dL_law_764 rfl (lv_at hl 4 rfl) ?_
  obtain ⟨w, e1, hm⟩ := Option.bind_eq_some_iff.mp hm
  refine kW hx hb hml hts hown hK hR hT hN hA hw (c_L_append l hfl e1) (mkSW 4 hts k_ml_RL_140 k_st_yL_append k_in_RL k_cw_yL_append hd_L_append ⟨Nat.le_of_ble_eq_true rfl, Nat.le_of_ble_eq_true rfl⟩) rfl hl.1 rfl (Nat.le_of_ble_eq_true rfl) dL_law_765 ⟨Nat.le_trans (Nat.add_le_add_left (Nat.le_of_ble_eq_true rfl) _) hcs.1, Nat.le_trans (Nat.add_le_add_left (Nat.le_of_ble_eq_true rfl) _) hcs.2⟩ (fun A1 hAA H locs hw => ?_)
  have hl : lv_has ls 8 [(5, .int (nI i)), (0, .ref b), (1, .ref (A1 0)), (2, .ref (A1 3)), (3, .ref (A1 6)), (4, .ref (A1 7))] := by
    rw [(hAA 0 (sm_in (by omega))).1, (hAA 3 (sm_in (by omega))).1, (hAA 6 (sm_in (by omega))).1, (hAA 7 (sm_in (by omega))).1]
    exact hl
  refine lv_istore (lv' := [(6, .int w.1), (5, .int (nI i)), (0, .ref b), (1, .ref (A1 0)), (2, .ref (A1 3)), (3, .ref (A1 6)), (4, .ref (A1 7))]) hx hb dL_law_768 hl (by decide) rfl (fun ls hl => ?_)
  refine lv_aload_n hx hb dL_law_770 rfl (lv_at hl 4 rfl) ?_
  refine lv_aload_n hx hb dL_law_771 rfl (lv_at hl 2 rfl) ?_
  refine lv_iload hx hb dL_law_772 (lv_at hl 1 rfl) ?_
  refine lv_iconst (v := 1) hx hb dL_law_774 rfl ?_
  refine lv_iadd hx hb dL_law_775 ?_
  refine xl (k := 1) hx hb hX hbl hL hw rfl (by omega) dL_law_776 ?_
  refine lv_aload_n hx hb dL_law_777 rfl (lv_at hl 2 rfl) ?_
  refine lv_iload hx hb dL_law_778 (lv_at hl 1 rfl) ?_
  refine lv_iconst (v := 2) hx hb dL_law_780 rfl ?_
  refine lv_iadd hx hb dL_law_781 ?_
  refine xl (k := 2) hx hb hX hbl hL hw rfl (by omega) dL_law_782 ?_
  obtain ⟨z, ez, hm⟩ := Option.bind_eq_some_iff.mp hm
  refine ki hw hA (rV hx hb hml hts hown hK hw (c_X6_append l (⟨rfl, sm_in (by omega)⟩ : TT w.2.1 5 3) ez) (⟨rfl, sm_in (by omega)⟩ : TT w.2.1 5 3) (by decide) rfl (mkV 2 hts k_ml_RL_142 k_im_yX6_append k_se_yX6_append k_in_RX6 k_co_yX6_append hd_X6_append ⟨Nat.le_of_ble_eq_true rfl, Nat.le_of_ble_eq_true rfl⟩) rfl hl.1 rfl (Nat.le_of_ble_eq_true rfl) dL_law_783 ⟨hcs.1, hcs.2⟩) (fun H locs hw => ?_)
  refine lv_istore (lv' := [(7, .int z.1), (6, .int w.1), (5, .int (nI i)), (0, .ref b), (1, .ref (A1 0)), (2, .ref (A1 3)), (3, .ref (A1 6)), (4, .ref (A1 7))]) hx hb dL_law_786 hl (by decide) rfl (fun ls hl => ?_)
  refine lv_aload_n hx hb dL_law_788 rfl (lv_at hl 5 rfl) ?_
  refine ki hw hA (rV hx hb hml hts hown hK hw (c_X6_thrown l (⟨rfl, sm_in (by omega)⟩ : TT w.2.1 5 3)) (⟨rfl, sm_in (by omega)⟩ : TT w.2.1 5 3) (by decide) rfl (mkV 0 hts k_ml_RL_101 k_im_yX6_thrown k_se_yX6_thrown k_in_RX6 k_co_yX6_thrown hd_X6_thrown ⟨Nat.le_of_ble_eq_true rfl, Nat.le_of_ble_eq_true rfl⟩) rfl hl.1 rfl (Nat.le_of_ble_eq_true rfl) dL_law_789 ⟨hcs.1, hcs.2⟩) (fun H locs hw => ?_)
  refine lv_iload hx hb dL_law_792 (lv_at hl 1 rfl) ?_
  refine lv_icmp_eq (tgt := 799) hx hb dL_law_794 (by decide) (fun hq => ?_) (fun hq => ?_)
  · rw [if_pos hq] at hm
    refine lv_iload hx hb dL_law_799 (lv_at hl 1 rfl) ?_
    refine lv_if_ne (tgt := 816) hx hb dL_law_801 (by decide) (fun hq0 => ?_) (fun hq0 => ?_)
    · rw [if_neg hq0] at hm
      cases Option.some.inj hm
      refine lv_goto (tgt := 1689) hx hb dL_law_816 (by decide) ?_
      exact kk A1 H locs ls hw (lv_sub hl [2, 3, 4, 5, 6, 7] rfl)
    · rw [if_pos hq0] at hm
      refine lv_aload_n hx hb dL_law_804 rfl (lv_at hl 6 rfl) ?_
      refine lv_iconst (v := 0) hx hb dL_law_805 rfl ?_
      refine gL hx hb hK hw dL_law_806 ?_
      refine lv_iload hx hb dL_law_807 (lv_at hl 0 rfl) ?_
      refine lv_i2l hx hb dL_law_809 rfl ?_
      refine lv_lcmp hx hb dL_law_810 (fun v hv => ?_)
      refine lv_if_eq (tgt := 816) hx hb dL_law_811 (by decide) (fun h0 => ?_) (fun h0 => ?_)
      · rw [if_pos (hv.mp h0)] at hm
        cases Option.some.inj hm
        refine lv_goto (tgt := 1689) hx hb dL_law_816 (by decide) ?_
        exact kk A1 H locs ls hw (lv_sub hl [2, 3, 4, 5, 6, 7] rfl)
      · rw [if_neg (fun h => h0 (hv.mpr h))] at hm
        cases hm
  · rw [if_neg hq] at hm
    cases hm
set_option maxHeartbeats 4000000 in
set_option maxRecDepth 100000 in
theorem k_law_12 {p : Program} {l : Launch} {e : Env} {s : State} {m : MethodId} {below : List Frame} {meth : Method} {c : Code} {H : Heap} {locs : List Loc} {cells slots : Nat} {Q : State → Prop} {D : va_G} {cy : Nat → ClassId} {A : Nat → Nat} {G G1 : Nat → Bool} {M M1 : Mem} {b L i : Nat} {xs : Nat → Int32} {ls : Array Slot} (C0 : LC p l s m c b L xs D cy) (hw : WD D cy (LAs s) A s.heap G M H locs) (hl : lv_has ls 8 [(5, .int (nI i)), (0, .ref b), (1, .ref (A 0)), (2, .ref (A 3)), (3, .ref (A 6)), (4, .ref (A 7))]) (hi : i + 4 ≤ L) (hcs : cells + 50 ≤ 601024 ∧ slots + 3520 ≤ 7293034) (hm : s_12 (xs (i + 1)) (xs (i + 2)) G M = some (G1, M1))
    (kk : ∀ (A1 : Nat → Nat) (H1 : Heap) (locs1 : List Loc) (ls1 : Array Slot), WD D cy (LAs s) A1 s.heap G1 M1 H1 locs1 → lv_has ls1 8 [(5, .int (nI i)), (0, .ref b), (1, .ref (A1 0)), (2, .ref (A1 3)), (3, .ref (A1 6)), (4, .ref (A1 7))] → W p l e room_1 s m #[Value.ref b] below meth c H1 locs1 (cells + 50) (slots + 3520) Q (F0 m 1689 ls1 [])) : W p l e room_1 s m #[Value.ref b] below meth c H locs cells slots Q (F0 m 819 ls []) := by
  obtain ⟨hx, hb, hml, hown, hts, hK, hR, hT, hN, hX, hbl, hL, hfl⟩ := C0
  have hA : ∀ q, s.heap.size ≤ q → LAs s q := fun _ h => h
  unfold s_12 at hm
  refine lv_aload_n hx hb dL_law_819 rfl (lv_at hl 2 rfl) ?_
  refine lv_aload_n hx hb dL_law_820 rfl (lv_at hl 1 rfl) ?_
  refine lv_iload hx hb dL_law_821 (lv_at hl 0 rfl) ?_
  refine lv_iconst (v := 1) hx hb dL_law_823 rfl ?_
  refine lv_iadd hx hb dL_law_824 ?_
  refine xl (k := 1) hx hb hX hbl hL hw rfl (by omega) dL_law_825 ?_
  refine lv_aload_n hx hb dL_law_826 rfl (lv_at hl 1 rfl) ?_
  refine lv_iload hx hb dL_law_827 (lv_at hl 0 rfl) ?_
  refine lv_iconst (v := 2) hx hb dL_law_829 rfl ?_
  refine lv_iadd hx hb dL_law_830 ?_
  refine xl (k := 2) hx hb hX hbl hL hw rfl (by omega) dL_law_831 ?_
  refine lv_aload_n hx hb dL_law_832 rfl (lv_at hl 4 rfl) ?_
  obtain ⟨w, e1, hm⟩ := Option.bind_eq_some_iff.mp hm
  refine kW hx hb hml hts hown hK hR hT hN hA hw (c_L_replace l hfl e1) (mkSW 4 hts k_ml_RL_143 k_st_yL_replace k_in_RL k_cw_yL_replace hd_L_replace ⟨Nat.le_of_ble_eq_true rfl, Nat.le_of_ble_eq_true rfl⟩) rfl hl.1 rfl (Nat.le_of_ble_eq_true rfl) dL_law_833 ⟨Nat.le_trans (Nat.add_le_add_left (Nat.le_of_ble_eq_true rfl) _) hcs.1, Nat.le_trans (Nat.add_le_add_left (Nat.le_of_ble_eq_true rfl) _) hcs.2⟩ (fun A1 hAA H locs hw => ?_)
  have hl : lv_has ls 8 [(5, .int (nI i)), (0, .ref b), (1, .ref (A1 0)), (2, .ref (A1 3)), (3, .ref (A1 6)), (4, .ref (A1 7))] := by
    rw [(hAA 0 (sm_in (by omega))).1, (hAA 3 (sm_in (by omega))).1, (hAA 6 (sm_in (by omega))).1, (hAA 7 (sm_in (by omega))).1]
    exact hl
  refine lv_istore (lv' := [(6, .int w.1), (5, .int (nI i)), (0, .ref b), (1, .ref (A1 0)), (2, .ref (A1 3)), (3, .ref (A1 6)), (4, .ref (A1 7))]) hx hb dL_law_836 hl (by decide) rfl (fun ls hl => ?_)
  refine lv_aload_n hx hb dL_law_838 rfl (lv_at hl 4 rfl) ?_
  refine lv_aload_n hx hb dL_law_839 rfl (lv_at hl 2 rfl) ?_
  refine lv_iload hx hb dL_law_840 (lv_at hl 1 rfl) ?_
  refine lv_iconst (v := 1) hx hb dL_law_842 rfl ?_
  refine lv_iadd hx hb dL_law_843 ?_
  refine xl (k := 1) hx hb hX hbl hL hw rfl (by omega) dL_law_844 ?_
  refine lv_aload_n hx hb dL_law_845 rfl (lv_at hl 2 rfl) ?_
  refine lv_iload hx hb dL_law_846 (lv_at hl 1 rfl) ?_
  refine lv_iconst (v := 2) hx hb dL_law_848 rfl ?_
  refine lv_iadd hx hb dL_law_849 ?_
  refine xl (k := 2) hx hb hX hbl hL hw rfl (by omega) dL_law_850 ?_
  obtain ⟨z, ez, hm⟩ := Option.bind_eq_some_iff.mp hm
  refine ki hw hA (rV hx hb hml hts hown hK hw (c_X6_replace l (⟨rfl, sm_in (by omega)⟩ : TT w.2.1 5 3) ez) (⟨rfl, sm_in (by omega)⟩ : TT w.2.1 5 3) (by decide) rfl (mkV 2 hts k_ml_RL_145 k_im_yX6_replace k_se_yX6_replace k_in_RX6 k_co_yX6_replace hd_X6_replace ⟨Nat.le_of_ble_eq_true rfl, Nat.le_of_ble_eq_true rfl⟩) rfl hl.1 rfl (Nat.le_of_ble_eq_true rfl) dL_law_851 ⟨hcs.1, hcs.2⟩) (fun H locs hw => ?_)
  refine lv_istore (lv' := [(7, .int z.1), (6, .int w.1), (5, .int (nI i)), (0, .ref b), (1, .ref (A1 0)), (2, .ref (A1 3)), (3, .ref (A1 6)), (4, .ref (A1 7))]) hx hb dL_law_854 hl (by decide) rfl (fun ls hl => ?_)
  refine lv_aload_n hx hb dL_law_856 rfl (lv_at hl 5 rfl) ?_
  refine ki hw hA (rV hx hb hml hts hown hK hw (c_X6_thrown l (⟨rfl, sm_in (by omega)⟩ : TT w.2.1 5 3)) (⟨rfl, sm_in (by omega)⟩ : TT w.2.1 5 3) (by decide) rfl (mkV 0 hts k_ml_RL_101 k_im_yX6_thrown k_se_yX6_thrown k_in_RX6 k_co_yX6_thrown hd_X6_thrown ⟨Nat.le_of_ble_eq_true rfl, Nat.le_of_ble_eq_true rfl⟩) rfl hl.1 rfl (Nat.le_of_ble_eq_true rfl) dL_law_857 ⟨hcs.1, hcs.2⟩) (fun H locs hw => ?_)
  refine lv_iload hx hb dL_law_860 (lv_at hl 1 rfl) ?_
  refine lv_icmp_eq (tgt := 867) hx hb dL_law_862 (by decide) (fun hq => ?_) (fun hq => ?_)
  · rw [if_pos hq] at hm
    refine lv_iload hx hb dL_law_867 (lv_at hl 1 rfl) ?_
    refine lv_if_ne (tgt := 884) hx hb dL_law_869 (by decide) (fun hq0 => ?_) (fun hq0 => ?_)
    · rw [if_neg hq0] at hm
      cases Option.some.inj hm
      refine lv_goto (tgt := 1689) hx hb dL_law_884 (by decide) ?_
      exact kk A1 H locs ls hw (lv_sub hl [2, 3, 4, 5, 6, 7] rfl)
    · rw [if_pos hq0] at hm
      refine lv_aload_n hx hb dL_law_872 rfl (lv_at hl 6 rfl) ?_
      refine lv_iconst (v := 0) hx hb dL_law_873 rfl ?_
      refine gL hx hb hK hw dL_law_874 ?_
      refine lv_iload hx hb dL_law_875 (lv_at hl 0 rfl) ?_
      refine lv_i2l hx hb dL_law_877 rfl ?_
      refine lv_lcmp hx hb dL_law_878 (fun v hv => ?_)
      refine lv_if_eq (tgt := 884) hx hb dL_law_879 (by decide) (fun h0 => ?_) (fun h0 => ?_)
      · rw [if_pos (hv.mp h0)] at hm
        cases Option.some.inj hm
        refine lv_goto (tgt := 1689) hx hb dL_law_884 (by decide) ?_
        exact kk A1 H locs ls hw (lv_sub hl [2, 3, 4, 5, 6, 7] rfl)
      · rw [if_neg (fun h => h0 (hv.mpr h))] at hm
        cases hm
  · rw [if_neg hq] at hm
    cases hm
set_option maxHeartbeats 4000000 in
set_option maxRecDepth 100000 in
theorem k_law_13 {p : Program} {l : Launch} {e : Env} {s : State} {m : MethodId} {below : List Frame} {meth : Method} {c : Code} {H : Heap} {locs : List Loc} {cells slots : Nat} {Q : State → Prop} {D : va_G} {cy : Nat → ClassId} {A : Nat → Nat} {G G1 : Nat → Bool} {M M1 : Mem} {b L i : Nat} {xs : Nat → Int32} {ls : Array Slot} (C0 : LC p l s m c b L xs D cy) (hw : WD D cy (LAs s) A s.heap G M H locs) (hl : lv_has ls 8 [(5, .int (nI i)), (0, .ref b), (1, .ref (A 0)), (2, .ref (A 3)), (3, .ref (A 6)), (4, .ref (A 7))]) (hi : i + 4 ≤ L) (hcs : cells + 50 ≤ 601024 ∧ slots + 3520 ≤ 7293034) (hm : s_13 (xs (i + 1)) G M = some (G1, M1))
    (kk : ∀ (A1 : Nat → Nat) (H1 : Heap) (locs1 : List Loc) (ls1 : Array Slot), WD D cy (LAs s) A1 s.heap G1 M1 H1 locs1 → lv_has ls1 8 [(5, .int (nI i)), (0, .ref b), (1, .ref (A1 0)), (2, .ref (A1 3)), (3, .ref (A1 6)), (4, .ref (A1 7))] → W p l e room_1 s m #[Value.ref b] below meth c H1 locs1 (cells + 50) (slots + 3520) Q (F0 m 1689 ls1 [])) : W p l e room_1 s m #[Value.ref b] below meth c H locs cells slots Q (F0 m 887 ls []) := by
  obtain ⟨hx, hb, hml, hown, hts, hK, hR, hT, hN, hX, hbl, hL, hfl⟩ := C0
  have hA : ∀ q, s.heap.size ≤ q → LAs s q := fun _ h => h
  unfold s_13 at hm
  refine lv_aload_n hx hb dL_law_887 rfl (lv_at hl 2 rfl) ?_
  refine lv_aload_n hx hb dL_law_888 rfl (lv_at hl 1 rfl) ?_
  refine lv_iload hx hb dL_law_889 (lv_at hl 0 rfl) ?_
  refine lv_iconst (v := 1) hx hb dL_law_891 rfl ?_
  refine lv_iadd hx hb dL_law_892 ?_
  refine xl (k := 1) hx hb hX hbl hL hw rfl (by omega) dL_law_893 ?_
  refine lv_aload_n hx hb dL_law_894 rfl (lv_at hl 4 rfl) ?_
  obtain ⟨w, e1, hm⟩ := Option.bind_eq_some_iff.mp hm
  refine kW hx hb hml hts hown hK hR hT hN hA hw (c_L_recover l hfl e1) (mkSW 3 hts k_ml_RL_146 k_st_yL_recover k_in_RL k_cw_yL_recover hd_L_recover ⟨Nat.le_of_ble_eq_true rfl, Nat.le_of_ble_eq_true rfl⟩) rfl hl.1 rfl (Nat.le_of_ble_eq_true rfl) dL_law_895 ⟨Nat.le_trans (Nat.add_le_add_left (Nat.le_of_ble_eq_true rfl) _) hcs.1, Nat.le_trans (Nat.add_le_add_left (Nat.le_of_ble_eq_true rfl) _) hcs.2⟩ (fun A1 hAA H locs hw => ?_)
  have hl : lv_has ls 8 [(5, .int (nI i)), (0, .ref b), (1, .ref (A1 0)), (2, .ref (A1 3)), (3, .ref (A1 6)), (4, .ref (A1 7))] := by
    rw [(hAA 0 (sm_in (by omega))).1, (hAA 3 (sm_in (by omega))).1, (hAA 6 (sm_in (by omega))).1, (hAA 7 (sm_in (by omega))).1]
    exact hl
  refine lv_istore (lv' := [(6, .int w.1), (5, .int (nI i)), (0, .ref b), (1, .ref (A1 0)), (2, .ref (A1 3)), (3, .ref (A1 6)), (4, .ref (A1 7))]) hx hb dL_law_898 hl (by decide) rfl (fun ls hl => ?_)
  refine lv_aload_n hx hb dL_law_900 rfl (lv_at hl 4 rfl) ?_
  refine lv_aload_n hx hb dL_law_901 rfl (lv_at hl 2 rfl) ?_
  refine lv_iload hx hb dL_law_902 (lv_at hl 1 rfl) ?_
  refine lv_iconst (v := 1) hx hb dL_law_904 rfl ?_
  refine lv_iadd hx hb dL_law_905 ?_
  refine xl (k := 1) hx hb hX hbl hL hw rfl (by omega) dL_law_906 ?_
  obtain ⟨z, ez, hm⟩ := Option.bind_eq_some_iff.mp hm
  refine ki hw hA (rV hx hb hml hts hown hK hw (c_X6_recover l (⟨rfl, sm_in (by omega)⟩ : TT w.2.1 5 3) ez) (⟨rfl, sm_in (by omega)⟩ : TT w.2.1 5 3) (by decide) rfl (mkV 1 hts k_ml_RL_148 k_im_yX6_recover k_se_yX6_recover k_in_RX6 k_co_yX6_recover hd_X6_recover ⟨Nat.le_of_ble_eq_true rfl, Nat.le_of_ble_eq_true rfl⟩) rfl hl.1 rfl (Nat.le_of_ble_eq_true rfl) dL_law_907 ⟨hcs.1, hcs.2⟩) (fun H locs hw => ?_)
  refine lv_istore (lv' := [(7, .int z.1), (6, .int w.1), (5, .int (nI i)), (0, .ref b), (1, .ref (A1 0)), (2, .ref (A1 3)), (3, .ref (A1 6)), (4, .ref (A1 7))]) hx hb dL_law_910 hl (by decide) rfl (fun ls hl => ?_)
  refine lv_aload_n hx hb dL_law_912 rfl (lv_at hl 5 rfl) ?_
  refine ki hw hA (rV hx hb hml hts hown hK hw (c_X6_thrown l (⟨rfl, sm_in (by omega)⟩ : TT w.2.1 5 3)) (⟨rfl, sm_in (by omega)⟩ : TT w.2.1 5 3) (by decide) rfl (mkV 0 hts k_ml_RL_101 k_im_yX6_thrown k_se_yX6_thrown k_in_RX6 k_co_yX6_thrown hd_X6_thrown ⟨Nat.le_of_ble_eq_true rfl, Nat.le_of_ble_eq_true rfl⟩) rfl hl.1 rfl (Nat.le_of_ble_eq_true rfl) dL_law_913 ⟨hcs.1, hcs.2⟩) (fun H locs hw => ?_)
  refine lv_iload hx hb dL_law_916 (lv_at hl 1 rfl) ?_
  refine lv_icmp_eq (tgt := 923) hx hb dL_law_918 (by decide) (fun hq => ?_) (fun hq => ?_)
  · rw [if_pos hq] at hm
    refine lv_iload hx hb dL_law_923 (lv_at hl 1 rfl) ?_
    refine lv_if_ne (tgt := 940) hx hb dL_law_925 (by decide) (fun hq0 => ?_) (fun hq0 => ?_)
    · rw [if_neg hq0] at hm
      cases Option.some.inj hm
      refine lv_goto (tgt := 1689) hx hb dL_law_940 (by decide) ?_
      exact kk A1 H locs ls hw (lv_sub hl [2, 3, 4, 5, 6, 7] rfl)
    · rw [if_pos hq0] at hm
      refine lv_aload_n hx hb dL_law_928 rfl (lv_at hl 6 rfl) ?_
      refine lv_iconst (v := 0) hx hb dL_law_929 rfl ?_
      refine gL hx hb hK hw dL_law_930 ?_
      refine lv_iload hx hb dL_law_931 (lv_at hl 0 rfl) ?_
      refine lv_i2l hx hb dL_law_933 rfl ?_
      refine lv_lcmp hx hb dL_law_934 (fun v hv => ?_)
      refine lv_if_eq (tgt := 940) hx hb dL_law_935 (by decide) (fun h0 => ?_) (fun h0 => ?_)
      · rw [if_pos (hv.mp h0)] at hm
        cases Option.some.inj hm
        refine lv_goto (tgt := 1689) hx hb dL_law_940 (by decide) ?_
        exact kk A1 H locs ls hw (lv_sub hl [2, 3, 4, 5, 6, 7] rfl)
      · rw [if_neg (fun h => h0 (hv.mpr h))] at hm
        cases hm
  · rw [if_neg hq] at hm
    cases hm
set_option maxHeartbeats 4000000 in
set_option maxRecDepth 100000 in
theorem k_law_14 {p : Program} {l : Launch} {e : Env} {s : State} {m : MethodId} {below : List Frame} {meth : Method} {c : Code} {H : Heap} {locs : List Loc} {cells slots : Nat} {Q : State → Prop} {D : va_G} {cy : Nat → ClassId} {A : Nat → Nat} {G G1 : Nat → Bool} {M M1 : Mem} {b L i : Nat} {xs : Nat → Int32} {ls : Array Slot} (C0 : LC p l s m c b L xs D cy) (hw : WD D cy (LAs s) A s.heap G M H locs) (hl : lv_has ls 8 [(5, .int (nI i)), (0, .ref b), (1, .ref (A 0)), (2, .ref (A 3)), (3, .ref (A 6)), (4, .ref (A 7))]) (hi : i + 4 ≤ L) (hcs : cells + 50 ≤ 601024 ∧ slots + 3520 ≤ 7293034) (hm : s_14 (xs (i + 1)) G M = some (G1, M1))
    (kk : ∀ (A1 : Nat → Nat) (H1 : Heap) (locs1 : List Loc) (ls1 : Array Slot), WD D cy (LAs s) A1 s.heap G1 M1 H1 locs1 → lv_has ls1 8 [(5, .int (nI i)), (0, .ref b), (1, .ref (A1 0)), (2, .ref (A1 3)), (3, .ref (A1 6)), (4, .ref (A1 7))] → W p l e room_1 s m #[Value.ref b] below meth c H1 locs1 (cells + 50) (slots + 3520) Q (F0 m 1689 ls1 [])) : W p l e room_1 s m #[Value.ref b] below meth c H locs cells slots Q (F0 m 943 ls []) := by
  obtain ⟨hx, hb, hml, hown, hts, hK, hR, hT, hN, hX, hbl, hL, hfl⟩ := C0
  have hA : ∀ q, s.heap.size ≤ q → LAs s q := fun _ h => h
  unfold s_14 at hm
  refine lv_aload_n hx hb dL_law_943 rfl (lv_at hl 2 rfl) ?_
  refine lv_aload_n hx hb dL_law_944 rfl (lv_at hl 1 rfl) ?_
  refine lv_iload hx hb dL_law_945 (lv_at hl 0 rfl) ?_
  refine lv_iconst (v := 1) hx hb dL_law_947 rfl ?_
  refine lv_iadd hx hb dL_law_948 ?_
  refine xl (k := 1) hx hb hX hbl hL hw rfl (by omega) dL_law_949 ?_
  refine lv_aload_n hx hb dL_law_950 rfl (lv_at hl 4 rfl) ?_
  obtain ⟨w, e1, hm⟩ := Option.bind_eq_some_iff.mp hm
  refine kW hx hb hml hts hown hK hR hT hN hA hw (c_L_repair l hfl e1) (mkSW 3 hts k_ml_RL_149 k_st_yL_repair k_in_RL k_cw_yL_repair hd_L_repair ⟨Nat.le_of_ble_eq_true rfl, Nat.le_of_ble_eq_true rfl⟩) rfl hl.1 rfl (Nat.le_of_ble_eq_true rfl) dL_law_951 ⟨Nat.le_trans (Nat.add_le_add_left (Nat.le_of_ble_eq_true rfl) _) hcs.1, Nat.le_trans (Nat.add_le_add_left (Nat.le_of_ble_eq_true rfl) _) hcs.2⟩ (fun A1 hAA H locs hw => ?_)
  have hl : lv_has ls 8 [(5, .int (nI i)), (0, .ref b), (1, .ref (A1 0)), (2, .ref (A1 3)), (3, .ref (A1 6)), (4, .ref (A1 7))] := by
    rw [(hAA 0 (sm_in (by omega))).1, (hAA 3 (sm_in (by omega))).1, (hAA 6 (sm_in (by omega))).1, (hAA 7 (sm_in (by omega))).1]
    exact hl
  refine lv_istore (lv' := [(6, .int w.1), (5, .int (nI i)), (0, .ref b), (1, .ref (A1 0)), (2, .ref (A1 3)), (3, .ref (A1 6)), (4, .ref (A1 7))]) hx hb dL_law_954 hl (by decide) rfl (fun ls hl => ?_)
  refine lv_aload_n hx hb dL_law_956 rfl (lv_at hl 4 rfl) ?_
  refine lv_aload_n hx hb dL_law_957 rfl (lv_at hl 2 rfl) ?_
  refine lv_iload hx hb dL_law_958 (lv_at hl 1 rfl) ?_
  refine lv_iconst (v := 1) hx hb dL_law_960 rfl ?_
  refine lv_iadd hx hb dL_law_961 ?_
  refine xl (k := 1) hx hb hX hbl hL hw rfl (by omega) dL_law_962 ?_
  obtain ⟨z, ez, hm⟩ := Option.bind_eq_some_iff.mp hm
  refine ki hw hA (rV hx hb hml hts hown hK hw (c_X6_repair l (⟨rfl, sm_in (by omega)⟩ : TT w.2.1 5 3) ez) (⟨rfl, sm_in (by omega)⟩ : TT w.2.1 5 3) (by decide) rfl (mkV 1 hts k_ml_RL_151 k_im_yX6_repair k_se_yX6_repair k_in_RX6 k_co_yX6_repair hd_X6_repair ⟨Nat.le_of_ble_eq_true rfl, Nat.le_of_ble_eq_true rfl⟩) rfl hl.1 rfl (Nat.le_of_ble_eq_true rfl) dL_law_963 ⟨hcs.1, hcs.2⟩) (fun H locs hw => ?_)
  refine lv_istore (lv' := [(7, .int z.1), (6, .int w.1), (5, .int (nI i)), (0, .ref b), (1, .ref (A1 0)), (2, .ref (A1 3)), (3, .ref (A1 6)), (4, .ref (A1 7))]) hx hb dL_law_966 hl (by decide) rfl (fun ls hl => ?_)
  refine lv_aload_n hx hb dL_law_968 rfl (lv_at hl 5 rfl) ?_
  refine ki hw hA (rV hx hb hml hts hown hK hw (c_X6_thrown l (⟨rfl, sm_in (by omega)⟩ : TT w.2.1 5 3)) (⟨rfl, sm_in (by omega)⟩ : TT w.2.1 5 3) (by decide) rfl (mkV 0 hts k_ml_RL_101 k_im_yX6_thrown k_se_yX6_thrown k_in_RX6 k_co_yX6_thrown hd_X6_thrown ⟨Nat.le_of_ble_eq_true rfl, Nat.le_of_ble_eq_true rfl⟩) rfl hl.1 rfl (Nat.le_of_ble_eq_true rfl) dL_law_969 ⟨hcs.1, hcs.2⟩) (fun H locs hw => ?_)
  refine lv_iload hx hb dL_law_972 (lv_at hl 1 rfl) ?_
  refine lv_icmp_eq (tgt := 979) hx hb dL_law_974 (by decide) (fun hq => ?_) (fun hq => ?_)
  · rw [if_pos hq] at hm
    refine lv_iload hx hb dL_law_979 (lv_at hl 1 rfl) ?_
    refine lv_if_ne (tgt := 996) hx hb dL_law_981 (by decide) (fun hq0 => ?_) (fun hq0 => ?_)
    · rw [if_neg hq0] at hm
      cases Option.some.inj hm
      refine lv_goto (tgt := 1689) hx hb dL_law_996 (by decide) ?_
      exact kk A1 H locs ls hw (lv_sub hl [2, 3, 4, 5, 6, 7] rfl)
    · rw [if_pos hq0] at hm
      refine lv_aload_n hx hb dL_law_984 rfl (lv_at hl 6 rfl) ?_
      refine lv_iconst (v := 0) hx hb dL_law_985 rfl ?_
      refine gL hx hb hK hw dL_law_986 ?_
      refine lv_iload hx hb dL_law_987 (lv_at hl 0 rfl) ?_
      refine lv_i2l hx hb dL_law_989 rfl ?_
      refine lv_lcmp hx hb dL_law_990 (fun v hv => ?_)
      refine lv_if_eq (tgt := 996) hx hb dL_law_991 (by decide) (fun h0 => ?_) (fun h0 => ?_)
      · rw [if_pos (hv.mp h0)] at hm
        cases Option.some.inj hm
        refine lv_goto (tgt := 1689) hx hb dL_law_996 (by decide) ?_
        exact kk A1 H locs ls hw (lv_sub hl [2, 3, 4, 5, 6, 7] rfl)
      · rw [if_neg (fun h => h0 (hv.mpr h))] at hm
        cases hm
  · rw [if_neg hq] at hm
    cases hm
set_option maxHeartbeats 4000000 in
set_option maxRecDepth 100000 in
theorem k_law_15 {p : Program} {l : Launch} {e : Env} {s : State} {m : MethodId} {below : List Frame} {meth : Method} {c : Code} {H : Heap} {locs : List Loc} {cells slots : Nat} {Q : State → Prop} {D : va_G} {cy : Nat → ClassId} {A : Nat → Nat} {G G1 : Nat → Bool} {M M1 : Mem} {b L i : Nat} {xs : Nat → Int32} {ls : Array Slot} (C0 : LC p l s m c b L xs D cy) (hw : WD D cy (LAs s) A s.heap G M H locs) (hl : lv_has ls 8 [(5, .int (nI i)), (0, .ref b), (1, .ref (A 0)), (2, .ref (A 3)), (3, .ref (A 6)), (4, .ref (A 7))]) (hi : i + 4 ≤ L) (hcs : cells + 50 ≤ 601024 ∧ slots + 3520 ≤ 7293034) (hm : s_15 (xs (i + 1)) (xs (i + 2)) G M = some (G1, M1))
    (kk : ∀ (A1 : Nat → Nat) (H1 : Heap) (locs1 : List Loc) (ls1 : Array Slot), WD D cy (LAs s) A1 s.heap G1 M1 H1 locs1 → lv_has ls1 8 [(5, .int (nI i)), (0, .ref b), (1, .ref (A1 0)), (2, .ref (A1 3)), (3, .ref (A1 6)), (4, .ref (A1 7))] → W p l e room_1 s m #[Value.ref b] below meth c H1 locs1 (cells + 50) (slots + 3520) Q (F0 m 1689 ls1 [])) : W p l e room_1 s m #[Value.ref b] below meth c H locs cells slots Q (F0 m 999 ls []) := by
  obtain ⟨hx, hb, hml, hown, hts, hK, hR, hT, hN, hX, hbl, hL, hfl⟩ := C0
  have hA : ∀ q, s.heap.size ≤ q → LAs s q := fun _ h => h
  unfold s_15 at hm
  refine lv_aload_n hx hb dL_law_999 rfl (lv_at hl 2 rfl) ?_
  refine lv_aload_n hx hb dL_law_1000 rfl (lv_at hl 1 rfl) ?_
  refine lv_iload hx hb dL_law_1001 (lv_at hl 0 rfl) ?_
  refine lv_iconst (v := 1) hx hb dL_law_1003 rfl ?_
  refine lv_iadd hx hb dL_law_1004 ?_
  refine xl (k := 1) hx hb hX hbl hL hw rfl (by omega) dL_law_1005 ?_
  refine lv_aload_n hx hb dL_law_1006 rfl (lv_at hl 1 rfl) ?_
  refine lv_iload hx hb dL_law_1007 (lv_at hl 0 rfl) ?_
  refine lv_iconst (v := 2) hx hb dL_law_1009 rfl ?_
  refine lv_iadd hx hb dL_law_1010 ?_
  refine xl (k := 2) hx hb hX hbl hL hw rfl (by omega) dL_law_1011 ?_
  refine lv_aload_n hx hb dL_law_1012 rfl (lv_at hl 4 rfl) ?_
  obtain ⟨w, e1, hm⟩ := Option.bind_eq_some_iff.mp hm
  refine kW hx hb hml hts hown hK hR hT hN hA hw (c_L_read l hfl e1) (mkSW 4 hts k_ml_RL_152 k_st_yL_read k_in_RL k_cw_yL_read hd_L_read ⟨Nat.le_of_ble_eq_true rfl, Nat.le_of_ble_eq_true rfl⟩) rfl hl.1 rfl (Nat.le_of_ble_eq_true rfl) dL_law_1013 ⟨Nat.le_trans (Nat.add_le_add_left (Nat.le_of_ble_eq_true rfl) _) hcs.1, Nat.le_trans (Nat.add_le_add_left (Nat.le_of_ble_eq_true rfl) _) hcs.2⟩ (fun A1 hAA H locs hw => ?_)
  refine kwid2 (mc := 4) (ms := 24) (Nat.le_of_ble_eq_true rfl) (Nat.le_of_ble_eq_true rfl) ?_
  have hl : lv_has ls 8 [(5, .int (nI i)), (0, .ref b), (1, .ref (A1 0)), (2, .ref (A1 3)), (3, .ref (A1 6)), (4, .ref (A1 7))] := by
    rw [(hAA 0 (sm_in (by omega))).1, (hAA 3 (sm_in (by omega))).1, (hAA 6 (sm_in (by omega))).1, (hAA 7 (sm_in (by omega))).1]
    exact hl
  refine lv_istore (lv' := [(6, .int w.1), (5, .int (nI i)), (0, .ref b), (1, .ref (A1 0)), (2, .ref (A1 3)), (3, .ref (A1 6)), (4, .ref (A1 7))]) hx hb dL_law_1016 hl (by decide) rfl (fun ls hl => ?_)
  refine lv_aload_n hx hb dL_law_1018 rfl (lv_at hl 4 rfl) ?_
  refine lv_aload_n hx hb dL_law_1019 rfl (lv_at hl 2 rfl) ?_
  refine lv_iload hx hb dL_law_1020 (lv_at hl 1 rfl) ?_
  refine lv_iconst (v := 1) hx hb dL_law_1022 rfl ?_
  refine lv_iadd hx hb dL_law_1023 ?_
  refine xl (k := 1) hx hb hX hbl hL hw rfl (by omega) dL_law_1024 ?_
  refine lv_aload_n hx hb dL_law_1025 rfl (lv_at hl 2 rfl) ?_
  refine lv_iload hx hb dL_law_1026 (lv_at hl 1 rfl) ?_
  refine lv_iconst (v := 2) hx hb dL_law_1028 rfl ?_
  refine lv_iadd hx hb dL_law_1029 ?_
  refine xl (k := 2) hx hb hX hbl hL hw rfl (by omega) dL_law_1030 ?_
  obtain ⟨z, ez, hm⟩ := Option.bind_eq_some_iff.mp hm
  refine ki hw hA (rV hx hb hml hts hown hK hw (c_X6_read l (⟨rfl, sm_in (by omega)⟩ : TT w.2.1 5 3) ez) (⟨rfl, sm_in (by omega)⟩ : TT w.2.1 5 3) (by decide) rfl (mkV 2 hts k_ml_RL_154 k_im_yX6_read k_se_yX6_read k_in_RX6 k_co_yX6_read hd_X6_read ⟨Nat.le_of_ble_eq_true rfl, Nat.le_of_ble_eq_true rfl⟩) rfl hl.1 rfl (Nat.le_of_ble_eq_true rfl) dL_law_1031 ⟨hcs.1, hcs.2⟩) (fun H locs hw => ?_)
  refine lv_istore (lv' := [(7, .int z.1), (6, .int w.1), (5, .int (nI i)), (0, .ref b), (1, .ref (A1 0)), (2, .ref (A1 3)), (3, .ref (A1 6)), (4, .ref (A1 7))]) hx hb dL_law_1034 hl (by decide) rfl (fun ls hl => ?_)
  refine lv_aload_n hx hb dL_law_1036 rfl (lv_at hl 5 rfl) ?_
  refine ki hw hA (rV hx hb hml hts hown hK hw (c_X6_thrown l (⟨rfl, sm_in (by omega)⟩ : TT w.2.1 5 3)) (⟨rfl, sm_in (by omega)⟩ : TT w.2.1 5 3) (by decide) rfl (mkV 0 hts k_ml_RL_101 k_im_yX6_thrown k_se_yX6_thrown k_in_RX6 k_co_yX6_thrown hd_X6_thrown ⟨Nat.le_of_ble_eq_true rfl, Nat.le_of_ble_eq_true rfl⟩) rfl hl.1 rfl (Nat.le_of_ble_eq_true rfl) dL_law_1037 ⟨hcs.1, hcs.2⟩) (fun H locs hw => ?_)
  refine lv_iload hx hb dL_law_1040 (lv_at hl 1 rfl) ?_
  refine lv_icmp_eq (tgt := 1047) hx hb dL_law_1042 (by decide) (fun hq => ?_) (fun hq => ?_)
  · rw [if_pos hq] at hm
    refine lv_iload hx hb dL_law_1047 (lv_at hl 1 rfl) ?_
    refine lv_if_ne (tgt := 1064) hx hb dL_law_1049 (by decide) (fun hq0 => ?_) (fun hq0 => ?_)
    · rw [if_neg hq0] at hm
      cases Option.some.inj hm
      refine lv_goto (tgt := 1689) hx hb dL_law_1064 (by decide) ?_
      exact kk A1 H locs ls hw (lv_sub hl [2, 3, 4, 5, 6, 7] rfl)
    · rw [if_pos hq0] at hm
      refine lv_aload_n hx hb dL_law_1052 rfl (lv_at hl 6 rfl) ?_
      refine lv_iconst (v := 0) hx hb dL_law_1053 rfl ?_
      refine gL hx hb hK hw dL_law_1054 ?_
      refine lv_iload hx hb dL_law_1055 (lv_at hl 0 rfl) ?_
      refine lv_i2l hx hb dL_law_1057 rfl ?_
      refine lv_lcmp hx hb dL_law_1058 (fun v hv => ?_)
      refine lv_if_eq (tgt := 1064) hx hb dL_law_1059 (by decide) (fun h0 => ?_) (fun h0 => ?_)
      · rw [if_pos (hv.mp h0)] at hm
        cases Option.some.inj hm
        refine lv_goto (tgt := 1689) hx hb dL_law_1064 (by decide) ?_
        exact kk A1 H locs ls hw (lv_sub hl [2, 3, 4, 5, 6, 7] rfl)
      · rw [if_neg (fun h => h0 (hv.mpr h))] at hm
        cases hm
  · rw [if_neg hq] at hm
    cases hm
set_option maxHeartbeats 4000000 in
set_option maxRecDepth 100000 in
theorem k_law_16 {p : Program} {l : Launch} {e : Env} {s : State} {m : MethodId} {below : List Frame} {meth : Method} {c : Code} {H : Heap} {locs : List Loc} {cells slots : Nat} {Q : State → Prop} {D : va_G} {cy : Nat → ClassId} {A : Nat → Nat} {G G1 : Nat → Bool} {M M1 : Mem} {b L i : Nat} {xs : Nat → Int32} {ls : Array Slot} (C0 : LC p l s m c b L xs D cy) (hw : WD D cy (LAs s) A s.heap G M H locs) (hl : lv_has ls 8 [(5, .int (nI i)), (0, .ref b), (1, .ref (A 0)), (2, .ref (A 3)), (3, .ref (A 6)), (4, .ref (A 7))]) (hi : i + 4 ≤ L) (hcs : cells + 50 ≤ 601024 ∧ slots + 3520 ≤ 7293034) (hm : s_16 (xs (i + 1)) G M = some (G1, M1))
    (kk : ∀ (A1 : Nat → Nat) (H1 : Heap) (locs1 : List Loc) (ls1 : Array Slot), WD D cy (LAs s) A1 s.heap G1 M1 H1 locs1 → lv_has ls1 8 [(5, .int (nI i)), (0, .ref b), (1, .ref (A1 0)), (2, .ref (A1 3)), (3, .ref (A1 6)), (4, .ref (A1 7))] → W p l e room_1 s m #[Value.ref b] below meth c H1 locs1 (cells + 50) (slots + 3520) Q (F0 m 1689 ls1 [])) : W p l e room_1 s m #[Value.ref b] below meth c H locs cells slots Q (F0 m 1067 ls []) := by
  obtain ⟨hx, hb, hml, hown, hts, hK, hR, hT, hN, hX, hbl, hL, hfl⟩ := C0
  have hA : ∀ q, s.heap.size ≤ q → LAs s q := fun _ h => h
  unfold s_16 at hm
  refine lv_aload_n hx hb dL_law_1067 rfl (lv_at hl 2 rfl) ?_
  refine lv_aload_n hx hb dL_law_1068 rfl (lv_at hl 1 rfl) ?_
  refine lv_iload hx hb dL_law_1069 (lv_at hl 0 rfl) ?_
  refine lv_iconst (v := 1) hx hb dL_law_1071 rfl ?_
  refine lv_iadd hx hb dL_law_1072 ?_
  refine xl (k := 1) hx hb hX hbl hL hw rfl (by omega) dL_law_1073 ?_
  refine lv_aload_n hx hb dL_law_1074 rfl (lv_at hl 4 rfl) ?_
  obtain ⟨w, e1, hm⟩ := Option.bind_eq_some_iff.mp hm
  refine kW hx hb hml hts hown hK hR hT hN hA hw (c_L_state l hfl e1) (mkSW 3 hts k_ml_RL_155 k_st_yL_state k_in_RL k_cw_yL_state hd_L_state ⟨Nat.le_of_ble_eq_true rfl, Nat.le_of_ble_eq_true rfl⟩) rfl hl.1 rfl (Nat.le_of_ble_eq_true rfl) dL_law_1075 ⟨Nat.le_trans (Nat.add_le_add_left (Nat.le_of_ble_eq_true rfl) _) hcs.1, Nat.le_trans (Nat.add_le_add_left (Nat.le_of_ble_eq_true rfl) _) hcs.2⟩ (fun A1 hAA H locs hw => ?_)
  refine kwid2 (mc := 4) (ms := 24) (Nat.le_of_ble_eq_true rfl) (Nat.le_of_ble_eq_true rfl) ?_
  have hl : lv_has ls 8 [(5, .int (nI i)), (0, .ref b), (1, .ref (A1 0)), (2, .ref (A1 3)), (3, .ref (A1 6)), (4, .ref (A1 7))] := by
    rw [(hAA 0 (sm_in (by omega))).1, (hAA 3 (sm_in (by omega))).1, (hAA 6 (sm_in (by omega))).1, (hAA 7 (sm_in (by omega))).1]
    exact hl
  refine lv_istore (lv' := [(6, .int w.1), (5, .int (nI i)), (0, .ref b), (1, .ref (A1 0)), (2, .ref (A1 3)), (3, .ref (A1 6)), (4, .ref (A1 7))]) hx hb dL_law_1078 hl (by decide) rfl (fun ls hl => ?_)
  refine lv_aload_n hx hb dL_law_1080 rfl (lv_at hl 4 rfl) ?_
  refine lv_aload_n hx hb dL_law_1081 rfl (lv_at hl 2 rfl) ?_
  refine lv_iload hx hb dL_law_1082 (lv_at hl 1 rfl) ?_
  refine lv_iconst (v := 1) hx hb dL_law_1084 rfl ?_
  refine lv_iadd hx hb dL_law_1085 ?_
  refine xl (k := 1) hx hb hX hbl hL hw rfl (by omega) dL_law_1086 ?_
  obtain ⟨z, ez, hm⟩ := Option.bind_eq_some_iff.mp hm
  refine ki hw hA (rV hx hb hml hts hown hK hw (c_X6_state l (⟨rfl, sm_in (by omega)⟩ : TT w.2.1 5 3) ez) (⟨rfl, sm_in (by omega)⟩ : TT w.2.1 5 3) (by decide) rfl (mkV 1 hts k_ml_RL_157 k_im_yX6_state k_se_yX6_state k_in_RX6 k_co_yX6_state hd_X6_state ⟨Nat.le_of_ble_eq_true rfl, Nat.le_of_ble_eq_true rfl⟩) rfl hl.1 rfl (Nat.le_of_ble_eq_true rfl) dL_law_1087 ⟨hcs.1, hcs.2⟩) (fun H locs hw => ?_)
  refine lv_istore (lv' := [(7, .int z.1), (6, .int w.1), (5, .int (nI i)), (0, .ref b), (1, .ref (A1 0)), (2, .ref (A1 3)), (3, .ref (A1 6)), (4, .ref (A1 7))]) hx hb dL_law_1090 hl (by decide) rfl (fun ls hl => ?_)
  refine lv_aload_n hx hb dL_law_1092 rfl (lv_at hl 5 rfl) ?_
  refine ki hw hA (rV hx hb hml hts hown hK hw (c_X6_thrown l (⟨rfl, sm_in (by omega)⟩ : TT w.2.1 5 3)) (⟨rfl, sm_in (by omega)⟩ : TT w.2.1 5 3) (by decide) rfl (mkV 0 hts k_ml_RL_101 k_im_yX6_thrown k_se_yX6_thrown k_in_RX6 k_co_yX6_thrown hd_X6_thrown ⟨Nat.le_of_ble_eq_true rfl, Nat.le_of_ble_eq_true rfl⟩) rfl hl.1 rfl (Nat.le_of_ble_eq_true rfl) dL_law_1093 ⟨hcs.1, hcs.2⟩) (fun H locs hw => ?_)
  refine lv_iload hx hb dL_law_1096 (lv_at hl 1 rfl) ?_
  refine lv_icmp_eq (tgt := 1103) hx hb dL_law_1098 (by decide) (fun hq => ?_) (fun hq => ?_)
  · rw [if_pos hq] at hm
    refine lv_iload hx hb dL_law_1103 (lv_at hl 1 rfl) ?_
    refine lv_if_ne (tgt := 1120) hx hb dL_law_1105 (by decide) (fun hq0 => ?_) (fun hq0 => ?_)
    · rw [if_neg hq0] at hm
      cases Option.some.inj hm
      refine lv_goto (tgt := 1689) hx hb dL_law_1120 (by decide) ?_
      exact kk A1 H locs ls hw (lv_sub hl [2, 3, 4, 5, 6, 7] rfl)
    · rw [if_pos hq0] at hm
      refine lv_aload_n hx hb dL_law_1108 rfl (lv_at hl 6 rfl) ?_
      refine lv_iconst (v := 0) hx hb dL_law_1109 rfl ?_
      refine gL hx hb hK hw dL_law_1110 ?_
      refine lv_iload hx hb dL_law_1111 (lv_at hl 0 rfl) ?_
      refine lv_i2l hx hb dL_law_1113 rfl ?_
      refine lv_lcmp hx hb dL_law_1114 (fun v hv => ?_)
      refine lv_if_eq (tgt := 1120) hx hb dL_law_1115 (by decide) (fun h0 => ?_) (fun h0 => ?_)
      · rw [if_pos (hv.mp h0)] at hm
        cases Option.some.inj hm
        refine lv_goto (tgt := 1689) hx hb dL_law_1120 (by decide) ?_
        exact kk A1 H locs ls hw (lv_sub hl [2, 3, 4, 5, 6, 7] rfl)
      · rw [if_neg (fun h => h0 (hv.mpr h))] at hm
        cases hm
  · rw [if_neg hq] at hm
    cases hm
set_option maxHeartbeats 4000000 in
set_option maxRecDepth 100000 in
theorem k_law_17 {p : Program} {l : Launch} {e : Env} {s : State} {m : MethodId} {below : List Frame} {meth : Method} {c : Code} {H : Heap} {locs : List Loc} {cells slots : Nat} {Q : State → Prop} {D : va_G} {cy : Nat → ClassId} {A : Nat → Nat} {G G1 : Nat → Bool} {M M1 : Mem} {b L i : Nat} {xs : Nat → Int32} {ls : Array Slot} (C0 : LC p l s m c b L xs D cy) (hw : WD D cy (LAs s) A s.heap G M H locs) (hl : lv_has ls 8 [(5, .int (nI i)), (0, .ref b), (1, .ref (A 0)), (2, .ref (A 3)), (3, .ref (A 6)), (4, .ref (A 7))]) (hi : i + 4 ≤ L) (hcs : cells + 50 ≤ 601024 ∧ slots + 3520 ≤ 7293034) (hm : s_17 (xs (i + 1)) G M = some (G1, M1))
    (kk : ∀ (A1 : Nat → Nat) (H1 : Heap) (locs1 : List Loc) (ls1 : Array Slot), WD D cy (LAs s) A1 s.heap G1 M1 H1 locs1 → lv_has ls1 8 [(5, .int (nI i)), (0, .ref b), (1, .ref (A1 0)), (2, .ref (A1 3)), (3, .ref (A1 6)), (4, .ref (A1 7))] → W p l e room_1 s m #[Value.ref b] below meth c H1 locs1 (cells + 50) (slots + 3520) Q (F0 m 1689 ls1 [])) : W p l e room_1 s m #[Value.ref b] below meth c H locs cells slots Q (F0 m 1123 ls []) := by
  obtain ⟨hx, hb, hml, hown, hts, hK, hR, hT, hN, hX, hbl, hL, hfl⟩ := C0
  have hA : ∀ q, s.heap.size ≤ q → LAs s q := fun _ h => h
  unfold s_17 at hm
  refine lv_aload_n hx hb dL_law_1123 rfl (lv_at hl 2 rfl) ?_
  refine lv_aload_n hx hb dL_law_1124 rfl (lv_at hl 1 rfl) ?_
  refine lv_iload hx hb dL_law_1125 (lv_at hl 0 rfl) ?_
  refine lv_iconst (v := 1) hx hb dL_law_1127 rfl ?_
  refine lv_iadd hx hb dL_law_1128 ?_
  refine xl (k := 1) hx hb hX hbl hL hw rfl (by omega) dL_law_1129 ?_
  refine lv_aload_n hx hb dL_law_1130 rfl (lv_at hl 4 rfl) ?_
  obtain ⟨w, e1, hm⟩ := Option.bind_eq_some_iff.mp hm
  refine kW hx hb hml hts hown hK hR hT hN hA hw (c_L_lastReadable l hfl e1) (mkSW 3 hts k_ml_RL_158 k_st_yL_lastReadable k_in_RL k_cw_yL_lastReadable hd_L_lastReadable ⟨Nat.le_of_ble_eq_true rfl, Nat.le_of_ble_eq_true rfl⟩) rfl hl.1 rfl (Nat.le_of_ble_eq_true rfl) dL_law_1131 ⟨Nat.le_trans (Nat.add_le_add_left (Nat.le_of_ble_eq_true rfl) _) hcs.1, Nat.le_trans (Nat.add_le_add_left (Nat.le_of_ble_eq_true rfl) _) hcs.2⟩ (fun A1 hAA H locs hw => ?_)
  refine kwid2 (mc := 4) (ms := 24) (Nat.le_of_ble_eq_true rfl) (Nat.le_of_ble_eq_true rfl) ?_
  have hl : lv_has ls 8 [(5, .int (nI i)), (0, .ref b), (1, .ref (A1 0)), (2, .ref (A1 3)), (3, .ref (A1 6)), (4, .ref (A1 7))] := by
    rw [(hAA 0 (sm_in (by omega))).1, (hAA 3 (sm_in (by omega))).1, (hAA 6 (sm_in (by omega))).1, (hAA 7 (sm_in (by omega))).1]
    exact hl
  refine lv_istore (lv' := [(6, .int w.1), (5, .int (nI i)), (0, .ref b), (1, .ref (A1 0)), (2, .ref (A1 3)), (3, .ref (A1 6)), (4, .ref (A1 7))]) hx hb dL_law_1134 hl (by decide) rfl (fun ls hl => ?_)
  refine lv_aload_n hx hb dL_law_1136 rfl (lv_at hl 4 rfl) ?_
  refine lv_aload_n hx hb dL_law_1137 rfl (lv_at hl 2 rfl) ?_
  refine lv_iload hx hb dL_law_1138 (lv_at hl 1 rfl) ?_
  refine lv_iconst (v := 1) hx hb dL_law_1140 rfl ?_
  refine lv_iadd hx hb dL_law_1141 ?_
  refine xl (k := 1) hx hb hX hbl hL hw rfl (by omega) dL_law_1142 ?_
  obtain ⟨z, ez, hm⟩ := Option.bind_eq_some_iff.mp hm
  refine ki hw hA (rV hx hb hml hts hown hK hw (c_X6_lastReadable l (⟨rfl, sm_in (by omega)⟩ : TT w.2.1 5 3) ez) (⟨rfl, sm_in (by omega)⟩ : TT w.2.1 5 3) (by decide) rfl (mkV 1 hts k_ml_RL_160 k_im_yX6_lastReadable k_se_yX6_lastReadable k_in_RX6 k_co_yX6_lastReadable hd_X6_lastReadable ⟨Nat.le_of_ble_eq_true rfl, Nat.le_of_ble_eq_true rfl⟩) rfl hl.1 rfl (Nat.le_of_ble_eq_true rfl) dL_law_1143 ⟨hcs.1, hcs.2⟩) (fun H locs hw => ?_)
  refine lv_istore (lv' := [(7, .int z.1), (6, .int w.1), (5, .int (nI i)), (0, .ref b), (1, .ref (A1 0)), (2, .ref (A1 3)), (3, .ref (A1 6)), (4, .ref (A1 7))]) hx hb dL_law_1146 hl (by decide) rfl (fun ls hl => ?_)
  refine lv_aload_n hx hb dL_law_1148 rfl (lv_at hl 5 rfl) ?_
  refine ki hw hA (rV hx hb hml hts hown hK hw (c_X6_thrown l (⟨rfl, sm_in (by omega)⟩ : TT w.2.1 5 3)) (⟨rfl, sm_in (by omega)⟩ : TT w.2.1 5 3) (by decide) rfl (mkV 0 hts k_ml_RL_101 k_im_yX6_thrown k_se_yX6_thrown k_in_RX6 k_co_yX6_thrown hd_X6_thrown ⟨Nat.le_of_ble_eq_true rfl, Nat.le_of_ble_eq_true rfl⟩) rfl hl.1 rfl (Nat.le_of_ble_eq_true rfl) dL_law_1149 ⟨hcs.1, hcs.2⟩) (fun H locs hw => ?_)
  refine lv_iload hx hb dL_law_1152 (lv_at hl 1 rfl) ?_
  refine lv_icmp_eq (tgt := 1159) hx hb dL_law_1154 (by decide) (fun hq => ?_) (fun hq => ?_)
  · rw [if_pos hq] at hm
    refine lv_iload hx hb dL_law_1159 (lv_at hl 1 rfl) ?_
    refine lv_if_ne (tgt := 1176) hx hb dL_law_1161 (by decide) (fun hq0 => ?_) (fun hq0 => ?_)
    · rw [if_neg hq0] at hm
      cases Option.some.inj hm
      refine lv_goto (tgt := 1689) hx hb dL_law_1176 (by decide) ?_
      exact kk A1 H locs ls hw (lv_sub hl [2, 3, 4, 5, 6, 7] rfl)
    · rw [if_pos hq0] at hm
      refine lv_aload_n hx hb dL_law_1164 rfl (lv_at hl 6 rfl) ?_
      refine lv_iconst (v := 0) hx hb dL_law_1165 rfl ?_
      refine gL hx hb hK hw dL_law_1166 ?_
      refine lv_iload hx hb dL_law_1167 (lv_at hl 0 rfl) ?_
      refine lv_i2l hx hb dL_law_1169 rfl ?_
      refine lv_lcmp hx hb dL_law_1170 (fun v hv => ?_)
      refine lv_if_eq (tgt := 1176) hx hb dL_law_1171 (by decide) (fun h0 => ?_) (fun h0 => ?_)
      · rw [if_pos (hv.mp h0)] at hm
        cases Option.some.inj hm
        refine lv_goto (tgt := 1689) hx hb dL_law_1176 (by decide) ?_
        exact kk A1 H locs ls hw (lv_sub hl [2, 3, 4, 5, 6, 7] rfl)
      · rw [if_neg (fun h => h0 (hv.mpr h))] at hm
        cases hm
  · rw [if_neg hq] at hm
    cases hm
set_option maxHeartbeats 4000000 in
set_option maxRecDepth 100000 in
theorem k_law_18 {p : Program} {l : Launch} {e : Env} {s : State} {m : MethodId} {below : List Frame} {meth : Method} {c : Code} {H : Heap} {locs : List Loc} {cells slots : Nat} {Q : State → Prop} {D : va_G} {cy : Nat → ClassId} {A : Nat → Nat} {G G1 : Nat → Bool} {M M1 : Mem} {b L i : Nat} {xs : Nat → Int32} {ls : Array Slot} (C0 : LC p l s m c b L xs D cy) (hw : WD D cy (LAs s) A s.heap G M H locs) (hl : lv_has ls 8 [(5, .int (nI i)), (0, .ref b), (1, .ref (A 0)), (2, .ref (A 3)), (3, .ref (A 6)), (4, .ref (A 7))]) (hi : i + 4 ≤ L) (hcs : cells + 50 ≤ 601024 ∧ slots + 3520 ≤ 7293034) (hm : s_18 (xs (i + 1)) G M = some (G1, M1))
    (kk : ∀ (A1 : Nat → Nat) (H1 : Heap) (locs1 : List Loc) (ls1 : Array Slot), WD D cy (LAs s) A1 s.heap G1 M1 H1 locs1 → lv_has ls1 8 [(5, .int (nI i)), (0, .ref b), (1, .ref (A1 0)), (2, .ref (A1 3)), (3, .ref (A1 6)), (4, .ref (A1 7))] → W p l e room_1 s m #[Value.ref b] below meth c H1 locs1 (cells + 50) (slots + 3520) Q (F0 m 1689 ls1 [])) : W p l e room_1 s m #[Value.ref b] below meth c H locs cells slots Q (F0 m 1179 ls []) := by
  obtain ⟨hx, hb, hml, hown, hts, hK, hR, hT, hN, hX, hbl, hL, hfl⟩ := C0
  have hA : ∀ q, s.heap.size ≤ q → LAs s q := fun _ h => h
  unfold s_18 at hm
  refine lv_aload_n hx hb dL_law_1179 rfl (lv_at hl 2 rfl) ?_
  refine lv_aload_n hx hb dL_law_1180 rfl (lv_at hl 1 rfl) ?_
  refine lv_iload hx hb dL_law_1181 (lv_at hl 0 rfl) ?_
  refine lv_iconst (v := 1) hx hb dL_law_1183 rfl ?_
  refine lv_iadd hx hb dL_law_1184 ?_
  refine xl (k := 1) hx hb hX hbl hL hw rfl (by omega) dL_law_1185 ?_
  refine lv_aload_n hx hb dL_law_1186 rfl (lv_at hl 4 rfl) ?_
  obtain ⟨w, e1, hm⟩ := Option.bind_eq_some_iff.mp hm
  refine kW hx hb hml hts hown hK hR hT hN hA hw (c_L_appended l hfl e1) (mkSW 3 hts k_ml_RL_161 k_st_yL_appended k_in_RL k_cw_yL_appended hd_L_appended ⟨Nat.le_of_ble_eq_true rfl, Nat.le_of_ble_eq_true rfl⟩) rfl hl.1 rfl (Nat.le_of_ble_eq_true rfl) dL_law_1187 ⟨Nat.le_trans (Nat.add_le_add_left (Nat.le_of_ble_eq_true rfl) _) hcs.1, Nat.le_trans (Nat.add_le_add_left (Nat.le_of_ble_eq_true rfl) _) hcs.2⟩ (fun A1 hAA H locs hw => ?_)
  refine kwid2 (mc := 4) (ms := 24) (Nat.le_of_ble_eq_true rfl) (Nat.le_of_ble_eq_true rfl) ?_
  have hl : lv_has ls 8 [(5, .int (nI i)), (0, .ref b), (1, .ref (A1 0)), (2, .ref (A1 3)), (3, .ref (A1 6)), (4, .ref (A1 7))] := by
    rw [(hAA 0 (sm_in (by omega))).1, (hAA 3 (sm_in (by omega))).1, (hAA 6 (sm_in (by omega))).1, (hAA 7 (sm_in (by omega))).1]
    exact hl
  refine lv_istore (lv' := [(6, .int w.1), (5, .int (nI i)), (0, .ref b), (1, .ref (A1 0)), (2, .ref (A1 3)), (3, .ref (A1 6)), (4, .ref (A1 7))]) hx hb dL_law_1190 hl (by decide) rfl (fun ls hl => ?_)
  refine lv_aload_n hx hb dL_law_1192 rfl (lv_at hl 4 rfl) ?_
  refine lv_aload_n hx hb dL_law_1193 rfl (lv_at hl 2 rfl) ?_
  refine lv_iload hx hb dL_law_1194 (lv_at hl 1 rfl) ?_
  refine lv_iconst (v := 1) hx hb dL_law_1196 rfl ?_
  refine lv_iadd hx hb dL_law_1197 ?_
  refine xl (k := 1) hx hb hX hbl hL hw rfl (by omega) dL_law_1198 ?_
  obtain ⟨z, ez, hm⟩ := Option.bind_eq_some_iff.mp hm
  refine ki hw hA (rV hx hb hml hts hown hK hw (c_X6_appended l (⟨rfl, sm_in (by omega)⟩ : TT w.2.1 5 3) ez) (⟨rfl, sm_in (by omega)⟩ : TT w.2.1 5 3) (by decide) rfl (mkV 1 hts k_ml_RL_163 k_im_yX6_appended k_se_yX6_appended k_in_RX6 k_co_yX6_appended hd_X6_appended ⟨Nat.le_of_ble_eq_true rfl, Nat.le_of_ble_eq_true rfl⟩) rfl hl.1 rfl (Nat.le_of_ble_eq_true rfl) dL_law_1199 ⟨hcs.1, hcs.2⟩) (fun H locs hw => ?_)
  refine lv_istore (lv' := [(7, .int z.1), (6, .int w.1), (5, .int (nI i)), (0, .ref b), (1, .ref (A1 0)), (2, .ref (A1 3)), (3, .ref (A1 6)), (4, .ref (A1 7))]) hx hb dL_law_1202 hl (by decide) rfl (fun ls hl => ?_)
  refine lv_aload_n hx hb dL_law_1204 rfl (lv_at hl 5 rfl) ?_
  refine ki hw hA (rV hx hb hml hts hown hK hw (c_X6_thrown l (⟨rfl, sm_in (by omega)⟩ : TT w.2.1 5 3)) (⟨rfl, sm_in (by omega)⟩ : TT w.2.1 5 3) (by decide) rfl (mkV 0 hts k_ml_RL_101 k_im_yX6_thrown k_se_yX6_thrown k_in_RX6 k_co_yX6_thrown hd_X6_thrown ⟨Nat.le_of_ble_eq_true rfl, Nat.le_of_ble_eq_true rfl⟩) rfl hl.1 rfl (Nat.le_of_ble_eq_true rfl) dL_law_1205 ⟨hcs.1, hcs.2⟩) (fun H locs hw => ?_)
  refine lv_iload hx hb dL_law_1208 (lv_at hl 1 rfl) ?_
  refine lv_icmp_eq (tgt := 1215) hx hb dL_law_1210 (by decide) (fun hq => ?_) (fun hq => ?_)
  · rw [if_pos hq] at hm
    refine lv_iload hx hb dL_law_1215 (lv_at hl 1 rfl) ?_
    refine lv_if_ne (tgt := 1232) hx hb dL_law_1217 (by decide) (fun hq0 => ?_) (fun hq0 => ?_)
    · rw [if_neg hq0] at hm
      cases Option.some.inj hm
      refine lv_goto (tgt := 1689) hx hb dL_law_1232 (by decide) ?_
      exact kk A1 H locs ls hw (lv_sub hl [2, 3, 4, 5, 6, 7] rfl)
    · rw [if_pos hq0] at hm
      refine lv_aload_n hx hb dL_law_1220 rfl (lv_at hl 6 rfl) ?_
      refine lv_iconst (v := 0) hx hb dL_law_1221 rfl ?_
      refine gL hx hb hK hw dL_law_1222 ?_
      refine lv_iload hx hb dL_law_1223 (lv_at hl 0 rfl) ?_
      refine lv_i2l hx hb dL_law_1225 rfl ?_
      refine lv_lcmp hx hb dL_law_1226 (fun v hv => ?_)
      refine lv_if_eq (tgt := 1232) hx hb dL_law_1227 (by decide) (fun h0 => ?_) (fun h0 => ?_)
      · rw [if_pos (hv.mp h0)] at hm
        cases Option.some.inj hm
        refine lv_goto (tgt := 1689) hx hb dL_law_1232 (by decide) ?_
        exact kk A1 H locs ls hw (lv_sub hl [2, 3, 4, 5, 6, 7] rfl)
      · rw [if_neg (fun h => h0 (hv.mpr h))] at hm
        cases hm
  · rw [if_neg hq] at hm
    cases hm
set_option maxHeartbeats 4000000 in
set_option maxRecDepth 100000 in
theorem k_law_19 {p : Program} {l : Launch} {e : Env} {s : State} {m : MethodId} {below : List Frame} {meth : Method} {c : Code} {H : Heap} {locs : List Loc} {cells slots : Nat} {Q : State → Prop} {D : va_G} {cy : Nat → ClassId} {A : Nat → Nat} {G G1 : Nat → Bool} {M M1 : Mem} {b L i : Nat} {xs : Nat → Int32} {ls : Array Slot} (C0 : LC p l s m c b L xs D cy) (hw : WD D cy (LAs s) A s.heap G M H locs) (hl : lv_has ls 8 [(5, .int (nI i)), (0, .ref b), (1, .ref (A 0)), (2, .ref (A 3)), (3, .ref (A 6)), (4, .ref (A 7))]) (hi : i + 4 ≤ L) (hcs : cells + 50 ≤ 601024 ∧ slots + 3520 ≤ 7293034) (hm : s_19 (xs (i + 1)) (xs (i + 2)) G M = some (G1, M1))
    (kk : ∀ (A1 : Nat → Nat) (H1 : Heap) (locs1 : List Loc) (ls1 : Array Slot), WD D cy (LAs s) A1 s.heap G1 M1 H1 locs1 → lv_has ls1 8 [(5, .int (nI i)), (0, .ref b), (1, .ref (A1 0)), (2, .ref (A1 3)), (3, .ref (A1 6)), (4, .ref (A1 7))] → W p l e room_1 s m #[Value.ref b] below meth c H1 locs1 (cells + 50) (slots + 3520) Q (F0 m 1689 ls1 [])) : W p l e room_1 s m #[Value.ref b] below meth c H locs cells slots Q (F0 m 1235 ls []) := by
  obtain ⟨hx, hb, hml, hown, hts, hK, hR, hT, hN, hX, hbl, hL, hfl⟩ := C0
  have hA : ∀ q, s.heap.size ≤ q → LAs s q := fun _ h => h
  unfold s_19 at hm
  refine lv_aload_n hx hb dL_law_1235 rfl (lv_at hl 2 rfl) ?_
  refine lv_aload_n hx hb dL_law_1236 rfl (lv_at hl 1 rfl) ?_
  refine lv_iload hx hb dL_law_1237 (lv_at hl 0 rfl) ?_
  refine lv_iconst (v := 1) hx hb dL_law_1239 rfl ?_
  refine lv_iadd hx hb dL_law_1240 ?_
  refine xl (k := 1) hx hb hX hbl hL hw rfl (by omega) dL_law_1241 ?_
  refine lv_aload_n hx hb dL_law_1242 rfl (lv_at hl 1 rfl) ?_
  refine lv_iload hx hb dL_law_1243 (lv_at hl 0 rfl) ?_
  refine lv_iconst (v := 2) hx hb dL_law_1245 rfl ?_
  refine lv_iadd hx hb dL_law_1246 ?_
  refine xl (k := 2) hx hb hX hbl hL hw rfl (by omega) dL_law_1247 ?_
  refine lv_aload_n hx hb dL_law_1248 rfl (lv_at hl 4 rfl) ?_
  obtain ⟨w, e1, hm⟩ := Option.bind_eq_some_iff.mp hm
  refine kW hx hb hml hts hown hK hR hT hN hA hw (c_L_acknowledgements l hfl e1) (mkSW 4 hts k_ml_RL_164 k_st_yL_acknowledgements k_in_RL k_cw_yL_acknowledgements hd_L_acknowledgements ⟨Nat.le_of_ble_eq_true rfl, Nat.le_of_ble_eq_true rfl⟩) rfl hl.1 rfl (Nat.le_of_ble_eq_true rfl) dL_law_1249 ⟨Nat.le_trans (Nat.add_le_add_left (Nat.le_of_ble_eq_true rfl) _) hcs.1, Nat.le_trans (Nat.add_le_add_left (Nat.le_of_ble_eq_true rfl) _) hcs.2⟩ (fun A1 hAA H locs hw => ?_)
  refine kwid2 (mc := 4) (ms := 24) (Nat.le_of_ble_eq_true rfl) (Nat.le_of_ble_eq_true rfl) ?_
  have hl : lv_has ls 8 [(5, .int (nI i)), (0, .ref b), (1, .ref (A1 0)), (2, .ref (A1 3)), (3, .ref (A1 6)), (4, .ref (A1 7))] := by
    rw [(hAA 0 (sm_in (by omega))).1, (hAA 3 (sm_in (by omega))).1, (hAA 6 (sm_in (by omega))).1, (hAA 7 (sm_in (by omega))).1]
    exact hl
  refine lv_istore (lv' := [(6, .int w.1), (5, .int (nI i)), (0, .ref b), (1, .ref (A1 0)), (2, .ref (A1 3)), (3, .ref (A1 6)), (4, .ref (A1 7))]) hx hb dL_law_1252 hl (by decide) rfl (fun ls hl => ?_)
  refine lv_aload_n hx hb dL_law_1254 rfl (lv_at hl 4 rfl) ?_
  refine lv_aload_n hx hb dL_law_1255 rfl (lv_at hl 2 rfl) ?_
  refine lv_iload hx hb dL_law_1256 (lv_at hl 1 rfl) ?_
  refine lv_iconst (v := 1) hx hb dL_law_1258 rfl ?_
  refine lv_iadd hx hb dL_law_1259 ?_
  refine xl (k := 1) hx hb hX hbl hL hw rfl (by omega) dL_law_1260 ?_
  refine lv_aload_n hx hb dL_law_1261 rfl (lv_at hl 2 rfl) ?_
  refine lv_iload hx hb dL_law_1262 (lv_at hl 1 rfl) ?_
  refine lv_iconst (v := 2) hx hb dL_law_1264 rfl ?_
  refine lv_iadd hx hb dL_law_1265 ?_
  refine xl (k := 2) hx hb hX hbl hL hw rfl (by omega) dL_law_1266 ?_
  obtain ⟨z, ez, hm⟩ := Option.bind_eq_some_iff.mp hm
  refine ki hw hA (rV hx hb hml hts hown hK hw (c_X6_acknowledgements l (⟨rfl, sm_in (by omega)⟩ : TT w.2.1 5 3) ez) (⟨rfl, sm_in (by omega)⟩ : TT w.2.1 5 3) (by decide) rfl (mkV 2 hts k_ml_RL_166 k_im_yX6_acknowledgements k_se_yX6_acknowledgements k_in_RX6 k_co_yX6_acknowledgements hd_X6_acknowledgements ⟨Nat.le_of_ble_eq_true rfl, Nat.le_of_ble_eq_true rfl⟩) rfl hl.1 rfl (Nat.le_of_ble_eq_true rfl) dL_law_1267 ⟨hcs.1, hcs.2⟩) (fun H locs hw => ?_)
  refine lv_istore (lv' := [(7, .int z.1), (6, .int w.1), (5, .int (nI i)), (0, .ref b), (1, .ref (A1 0)), (2, .ref (A1 3)), (3, .ref (A1 6)), (4, .ref (A1 7))]) hx hb dL_law_1270 hl (by decide) rfl (fun ls hl => ?_)
  refine lv_aload_n hx hb dL_law_1272 rfl (lv_at hl 5 rfl) ?_
  refine ki hw hA (rV hx hb hml hts hown hK hw (c_X6_thrown l (⟨rfl, sm_in (by omega)⟩ : TT w.2.1 5 3)) (⟨rfl, sm_in (by omega)⟩ : TT w.2.1 5 3) (by decide) rfl (mkV 0 hts k_ml_RL_101 k_im_yX6_thrown k_se_yX6_thrown k_in_RX6 k_co_yX6_thrown hd_X6_thrown ⟨Nat.le_of_ble_eq_true rfl, Nat.le_of_ble_eq_true rfl⟩) rfl hl.1 rfl (Nat.le_of_ble_eq_true rfl) dL_law_1273 ⟨hcs.1, hcs.2⟩) (fun H locs hw => ?_)
  refine lv_iload hx hb dL_law_1276 (lv_at hl 1 rfl) ?_
  refine lv_icmp_eq (tgt := 1283) hx hb dL_law_1278 (by decide) (fun hq => ?_) (fun hq => ?_)
  · rw [if_pos hq] at hm
    refine lv_iload hx hb dL_law_1283 (lv_at hl 1 rfl) ?_
    refine lv_if_ne (tgt := 1300) hx hb dL_law_1285 (by decide) (fun hq0 => ?_) (fun hq0 => ?_)
    · rw [if_neg hq0] at hm
      cases Option.some.inj hm
      refine lv_goto (tgt := 1689) hx hb dL_law_1300 (by decide) ?_
      exact kk A1 H locs ls hw (lv_sub hl [2, 3, 4, 5, 6, 7] rfl)
    · rw [if_pos hq0] at hm
      refine lv_aload_n hx hb dL_law_1288 rfl (lv_at hl 6 rfl) ?_
      refine lv_iconst (v := 0) hx hb dL_law_1289 rfl ?_
      refine gL hx hb hK hw dL_law_1290 ?_
      refine lv_iload hx hb dL_law_1291 (lv_at hl 0 rfl) ?_
      refine lv_i2l hx hb dL_law_1293 rfl ?_
      refine lv_lcmp hx hb dL_law_1294 (fun v hv => ?_)
      refine lv_if_eq (tgt := 1300) hx hb dL_law_1295 (by decide) (fun h0 => ?_) (fun h0 => ?_)
      · rw [if_pos (hv.mp h0)] at hm
        cases Option.some.inj hm
        refine lv_goto (tgt := 1689) hx hb dL_law_1300 (by decide) ?_
        exact kk A1 H locs ls hw (lv_sub hl [2, 3, 4, 5, 6, 7] rfl)
      · rw [if_neg (fun h => h0 (hv.mpr h))] at hm
        cases hm
  · rw [if_neg hq] at hm
    cases hm
set_option maxHeartbeats 4000000 in
set_option maxRecDepth 100000 in
theorem k_law_20 {p : Program} {l : Launch} {e : Env} {s : State} {m : MethodId} {below : List Frame} {meth : Method} {c : Code} {H : Heap} {locs : List Loc} {cells slots : Nat} {Q : State → Prop} {D : va_G} {cy : Nat → ClassId} {A : Nat → Nat} {G G1 : Nat → Bool} {M M1 : Mem} {b L i : Nat} {xs : Nat → Int32} {ls : Array Slot} (C0 : LC p l s m c b L xs D cy) (hw : WD D cy (LAs s) A s.heap G M H locs) (hl : lv_has ls 8 [(5, .int (nI i)), (0, .ref b), (1, .ref (A 0)), (2, .ref (A 3)), (3, .ref (A 6)), (4, .ref (A 7))]) (hi : i + 4 ≤ L) (hcs : cells + 50 ≤ 601024 ∧ slots + 3520 ≤ 7293034) (hm : s_20 (xs (i + 1)) (xs (i + 2)) G M = some (G1, M1))
    (kk : ∀ (A1 : Nat → Nat) (H1 : Heap) (locs1 : List Loc) (ls1 : Array Slot), WD D cy (LAs s) A1 s.heap G1 M1 H1 locs1 → lv_has ls1 8 [(5, .int (nI i)), (0, .ref b), (1, .ref (A1 0)), (2, .ref (A1 3)), (3, .ref (A1 6)), (4, .ref (A1 7))] → W p l e room_1 s m #[Value.ref b] below meth c H1 locs1 (cells + 50) (slots + 3520) Q (F0 m 1689 ls1 [])) : W p l e room_1 s m #[Value.ref b] below meth c H locs cells slots Q (F0 m 1303 ls []) := by
  obtain ⟨hx, hb, hml, hown, hts, hK, hR, hT, hN, hX, hbl, hL, hfl⟩ := C0
  have hA : ∀ q, s.heap.size ≤ q → LAs s q := fun _ h => h
  unfold s_20 at hm
  refine lv_aload_n hx hb dL_law_1303 rfl (lv_at hl 2 rfl) ?_
  refine lv_aload_n hx hb dL_law_1304 rfl (lv_at hl 1 rfl) ?_
  refine lv_iload hx hb dL_law_1305 (lv_at hl 0 rfl) ?_
  refine lv_iconst (v := 1) hx hb dL_law_1307 rfl ?_
  refine lv_iadd hx hb dL_law_1308 ?_
  refine xl (k := 1) hx hb hX hbl hL hw rfl (by omega) dL_law_1309 ?_
  refine lv_aload_n hx hb dL_law_1310 rfl (lv_at hl 1 rfl) ?_
  refine lv_iload hx hb dL_law_1311 (lv_at hl 0 rfl) ?_
  refine lv_iconst (v := 2) hx hb dL_law_1313 rfl ?_
  refine lv_iadd hx hb dL_law_1314 ?_
  refine xl (k := 2) hx hb hX hbl hL hw rfl (by omega) dL_law_1315 ?_
  refine lv_aload_n hx hb dL_law_1316 rfl (lv_at hl 4 rfl) ?_
  obtain ⟨w, e1, hm⟩ := Option.bind_eq_some_iff.mp hm
  refine kW hx hb hml hts hown hK hR hT hN hA hw (c_L_holders l hfl e1) (mkSW 4 hts k_ml_RL_167 k_st_yL_holders k_in_RL k_cw_yL_holders hd_L_holders ⟨Nat.le_of_ble_eq_true rfl, Nat.le_of_ble_eq_true rfl⟩) rfl hl.1 rfl (Nat.le_of_ble_eq_true rfl) dL_law_1317 ⟨Nat.le_trans (Nat.add_le_add_left (Nat.le_of_ble_eq_true rfl) _) hcs.1, Nat.le_trans (Nat.add_le_add_left (Nat.le_of_ble_eq_true rfl) _) hcs.2⟩ (fun A1 hAA H locs hw => ?_)
  refine kwid2 (mc := 4) (ms := 24) (Nat.le_of_ble_eq_true rfl) (Nat.le_of_ble_eq_true rfl) ?_
  have hl : lv_has ls 8 [(5, .int (nI i)), (0, .ref b), (1, .ref (A1 0)), (2, .ref (A1 3)), (3, .ref (A1 6)), (4, .ref (A1 7))] := by
    rw [(hAA 0 (sm_in (by omega))).1, (hAA 3 (sm_in (by omega))).1, (hAA 6 (sm_in (by omega))).1, (hAA 7 (sm_in (by omega))).1]
    exact hl
  refine lv_istore (lv' := [(6, .int w.1), (5, .int (nI i)), (0, .ref b), (1, .ref (A1 0)), (2, .ref (A1 3)), (3, .ref (A1 6)), (4, .ref (A1 7))]) hx hb dL_law_1320 hl (by decide) rfl (fun ls hl => ?_)
  refine lv_aload_n hx hb dL_law_1322 rfl (lv_at hl 4 rfl) ?_
  refine lv_aload_n hx hb dL_law_1323 rfl (lv_at hl 2 rfl) ?_
  refine lv_iload hx hb dL_law_1324 (lv_at hl 1 rfl) ?_
  refine lv_iconst (v := 1) hx hb dL_law_1326 rfl ?_
  refine lv_iadd hx hb dL_law_1327 ?_
  refine xl (k := 1) hx hb hX hbl hL hw rfl (by omega) dL_law_1328 ?_
  refine lv_aload_n hx hb dL_law_1329 rfl (lv_at hl 2 rfl) ?_
  refine lv_iload hx hb dL_law_1330 (lv_at hl 1 rfl) ?_
  refine lv_iconst (v := 2) hx hb dL_law_1332 rfl ?_
  refine lv_iadd hx hb dL_law_1333 ?_
  refine xl (k := 2) hx hb hX hbl hL hw rfl (by omega) dL_law_1334 ?_
  obtain ⟨z, ez, hm⟩ := Option.bind_eq_some_iff.mp hm
  refine ki hw hA (rV hx hb hml hts hown hK hw (c_X6_holders l (⟨rfl, sm_in (by omega)⟩ : TT w.2.1 5 3) ez) (⟨rfl, sm_in (by omega)⟩ : TT w.2.1 5 3) (by decide) rfl (mkV 2 hts k_ml_RL_169 k_im_yX6_holders k_se_yX6_holders k_in_RX6 k_co_yX6_holders hd_X6_holders ⟨Nat.le_of_ble_eq_true rfl, Nat.le_of_ble_eq_true rfl⟩) rfl hl.1 rfl (Nat.le_of_ble_eq_true rfl) dL_law_1335 ⟨hcs.1, hcs.2⟩) (fun H locs hw => ?_)
  refine lv_istore (lv' := [(7, .int z.1), (6, .int w.1), (5, .int (nI i)), (0, .ref b), (1, .ref (A1 0)), (2, .ref (A1 3)), (3, .ref (A1 6)), (4, .ref (A1 7))]) hx hb dL_law_1338 hl (by decide) rfl (fun ls hl => ?_)
  refine lv_aload_n hx hb dL_law_1340 rfl (lv_at hl 5 rfl) ?_
  refine ki hw hA (rV hx hb hml hts hown hK hw (c_X6_thrown l (⟨rfl, sm_in (by omega)⟩ : TT w.2.1 5 3)) (⟨rfl, sm_in (by omega)⟩ : TT w.2.1 5 3) (by decide) rfl (mkV 0 hts k_ml_RL_101 k_im_yX6_thrown k_se_yX6_thrown k_in_RX6 k_co_yX6_thrown hd_X6_thrown ⟨Nat.le_of_ble_eq_true rfl, Nat.le_of_ble_eq_true rfl⟩) rfl hl.1 rfl (Nat.le_of_ble_eq_true rfl) dL_law_1341 ⟨hcs.1, hcs.2⟩) (fun H locs hw => ?_)
  refine lv_iload hx hb dL_law_1344 (lv_at hl 1 rfl) ?_
  refine lv_icmp_eq (tgt := 1351) hx hb dL_law_1346 (by decide) (fun hq => ?_) (fun hq => ?_)
  · rw [if_pos hq] at hm
    refine lv_iload hx hb dL_law_1351 (lv_at hl 1 rfl) ?_
    refine lv_if_ne (tgt := 1368) hx hb dL_law_1353 (by decide) (fun hq0 => ?_) (fun hq0 => ?_)
    · rw [if_neg hq0] at hm
      cases Option.some.inj hm
      refine lv_goto (tgt := 1689) hx hb dL_law_1368 (by decide) ?_
      exact kk A1 H locs ls hw (lv_sub hl [2, 3, 4, 5, 6, 7] rfl)
    · rw [if_pos hq0] at hm
      refine lv_aload_n hx hb dL_law_1356 rfl (lv_at hl 6 rfl) ?_
      refine lv_iconst (v := 0) hx hb dL_law_1357 rfl ?_
      refine gL hx hb hK hw dL_law_1358 ?_
      refine lv_iload hx hb dL_law_1359 (lv_at hl 0 rfl) ?_
      refine lv_i2l hx hb dL_law_1361 rfl ?_
      refine lv_lcmp hx hb dL_law_1362 (fun v hv => ?_)
      refine lv_if_eq (tgt := 1368) hx hb dL_law_1363 (by decide) (fun h0 => ?_) (fun h0 => ?_)
      · rw [if_pos (hv.mp h0)] at hm
        cases Option.some.inj hm
        refine lv_goto (tgt := 1689) hx hb dL_law_1368 (by decide) ?_
        exact kk A1 H locs ls hw (lv_sub hl [2, 3, 4, 5, 6, 7] rfl)
      · rw [if_neg (fun h => h0 (hv.mpr h))] at hm
        cases hm
  · rw [if_neg hq] at hm
    cases hm
set_option maxHeartbeats 4000000 in
set_option maxRecDepth 100000 in
theorem k_law_21 {p : Program} {l : Launch} {e : Env} {s : State} {m : MethodId} {below : List Frame} {meth : Method} {c : Code} {H : Heap} {locs : List Loc} {cells slots : Nat} {Q : State → Prop} {D : va_G} {cy : Nat → ClassId} {A : Nat → Nat} {G G1 : Nat → Bool} {M M1 : Mem} {b L i : Nat} {xs : Nat → Int32} {ls : Array Slot} (C0 : LC p l s m c b L xs D cy) (hw : WD D cy (LAs s) A s.heap G M H locs) (hl : lv_has ls 8 [(5, .int (nI i)), (0, .ref b), (1, .ref (A 0)), (2, .ref (A 3)), (3, .ref (A 6)), (4, .ref (A 7))]) (hi : i + 4 ≤ L) (hcs : cells + 50 ≤ 601024 ∧ slots + 3520 ≤ 7293034) (hm : s_21 (xs (i + 1)) G M = some (G1, M1))
    (kk : ∀ (A1 : Nat → Nat) (H1 : Heap) (locs1 : List Loc) (ls1 : Array Slot), WD D cy (LAs s) A1 s.heap G1 M1 H1 locs1 → lv_has ls1 8 [(5, .int (nI i)), (0, .ref b), (1, .ref (A1 0)), (2, .ref (A1 3)), (3, .ref (A1 6)), (4, .ref (A1 7))] → W p l e room_1 s m #[Value.ref b] below meth c H1 locs1 (cells + 50) (slots + 3520) Q (F0 m 1689 ls1 [])) : W p l e room_1 s m #[Value.ref b] below meth c H locs cells slots Q (F0 m 1371 ls []) := by
  obtain ⟨hx, hb, hml, hown, hts, hK, hR, hT, hN, hX, hbl, hL, hfl⟩ := C0
  have hA : ∀ q, s.heap.size ≤ q → LAs s q := fun _ h => h
  unfold s_21 at hm
  refine lv_aload_n hx hb dL_law_1371 rfl (lv_at hl 2 rfl) ?_
  refine lv_aload_n hx hb dL_law_1372 rfl (lv_at hl 1 rfl) ?_
  refine lv_iload hx hb dL_law_1373 (lv_at hl 0 rfl) ?_
  refine lv_iconst (v := 1) hx hb dL_law_1375 rfl ?_
  refine lv_iadd hx hb dL_law_1376 ?_
  refine xl (k := 1) hx hb hX hbl hL hw rfl (by omega) dL_law_1377 ?_
  refine lv_aload_n hx hb dL_law_1378 rfl (lv_at hl 4 rfl) ?_
  obtain ⟨w, e1, hm⟩ := Option.bind_eq_some_iff.mp hm
  refine kW hx hb hml hts hown hK hR hT hN hA hw (c_L_fragmentCount l hfl e1) (mkSW 3 hts k_ml_RL_170 k_st_yL_fragmentCount k_in_RL k_cw_yL_fragmentCount hd_L_fragmentCount ⟨Nat.le_of_ble_eq_true rfl, Nat.le_of_ble_eq_true rfl⟩) rfl hl.1 rfl (Nat.le_of_ble_eq_true rfl) dL_law_1379 ⟨Nat.le_trans (Nat.add_le_add_left (Nat.le_of_ble_eq_true rfl) _) hcs.1, Nat.le_trans (Nat.add_le_add_left (Nat.le_of_ble_eq_true rfl) _) hcs.2⟩ (fun A1 hAA H locs hw => ?_)
  refine kwid2 (mc := 4) (ms := 24) (Nat.le_of_ble_eq_true rfl) (Nat.le_of_ble_eq_true rfl) ?_
  have hl : lv_has ls 8 [(5, .int (nI i)), (0, .ref b), (1, .ref (A1 0)), (2, .ref (A1 3)), (3, .ref (A1 6)), (4, .ref (A1 7))] := by
    rw [(hAA 0 (sm_in (by omega))).1, (hAA 3 (sm_in (by omega))).1, (hAA 6 (sm_in (by omega))).1, (hAA 7 (sm_in (by omega))).1]
    exact hl
  refine lv_istore (lv' := [(6, .int w.1), (5, .int (nI i)), (0, .ref b), (1, .ref (A1 0)), (2, .ref (A1 3)), (3, .ref (A1 6)), (4, .ref (A1 7))]) hx hb dL_law_1382 hl (by decide) rfl (fun ls hl => ?_)
  refine lv_aload_n hx hb dL_law_1384 rfl (lv_at hl 4 rfl) ?_
  refine lv_aload_n hx hb dL_law_1385 rfl (lv_at hl 2 rfl) ?_
  refine lv_iload hx hb dL_law_1386 (lv_at hl 1 rfl) ?_
  refine lv_iconst (v := 1) hx hb dL_law_1388 rfl ?_
  refine lv_iadd hx hb dL_law_1389 ?_
  refine xl (k := 1) hx hb hX hbl hL hw rfl (by omega) dL_law_1390 ?_
  obtain ⟨z, ez, hm⟩ := Option.bind_eq_some_iff.mp hm
  refine ki hw hA (rV hx hb hml hts hown hK hw (c_X6_fragmentCount l (⟨rfl, sm_in (by omega)⟩ : TT w.2.1 5 3) ez) (⟨rfl, sm_in (by omega)⟩ : TT w.2.1 5 3) (by decide) rfl (mkV 1 hts k_ml_RL_172 k_im_yX6_fragmentCount k_se_yX6_fragmentCount k_in_RX6 k_co_yX6_fragmentCount hd_X6_fragmentCount ⟨Nat.le_of_ble_eq_true rfl, Nat.le_of_ble_eq_true rfl⟩) rfl hl.1 rfl (Nat.le_of_ble_eq_true rfl) dL_law_1391 ⟨hcs.1, hcs.2⟩) (fun H locs hw => ?_)
  refine lv_istore (lv' := [(7, .int z.1), (6, .int w.1), (5, .int (nI i)), (0, .ref b), (1, .ref (A1 0)), (2, .ref (A1 3)), (3, .ref (A1 6)), (4, .ref (A1 7))]) hx hb dL_law_1394 hl (by decide) rfl (fun ls hl => ?_)
  refine lv_aload_n hx hb dL_law_1396 rfl (lv_at hl 5 rfl) ?_
  refine ki hw hA (rV hx hb hml hts hown hK hw (c_X6_thrown l (⟨rfl, sm_in (by omega)⟩ : TT w.2.1 5 3)) (⟨rfl, sm_in (by omega)⟩ : TT w.2.1 5 3) (by decide) rfl (mkV 0 hts k_ml_RL_101 k_im_yX6_thrown k_se_yX6_thrown k_in_RX6 k_co_yX6_thrown hd_X6_thrown ⟨Nat.le_of_ble_eq_true rfl, Nat.le_of_ble_eq_true rfl⟩) rfl hl.1 rfl (Nat.le_of_ble_eq_true rfl) dL_law_1397 ⟨hcs.1, hcs.2⟩) (fun H locs hw => ?_)
  refine lv_iload hx hb dL_law_1400 (lv_at hl 1 rfl) ?_
  refine lv_icmp_eq (tgt := 1407) hx hb dL_law_1402 (by decide) (fun hq => ?_) (fun hq => ?_)
  · rw [if_pos hq] at hm
    refine lv_iload hx hb dL_law_1407 (lv_at hl 1 rfl) ?_
    refine lv_if_ne (tgt := 1424) hx hb dL_law_1409 (by decide) (fun hq0 => ?_) (fun hq0 => ?_)
    · rw [if_neg hq0] at hm
      cases Option.some.inj hm
      refine lv_goto (tgt := 1689) hx hb dL_law_1424 (by decide) ?_
      exact kk A1 H locs ls hw (lv_sub hl [2, 3, 4, 5, 6, 7] rfl)
    · rw [if_pos hq0] at hm
      refine lv_aload_n hx hb dL_law_1412 rfl (lv_at hl 6 rfl) ?_
      refine lv_iconst (v := 0) hx hb dL_law_1413 rfl ?_
      refine gL hx hb hK hw dL_law_1414 ?_
      refine lv_iload hx hb dL_law_1415 (lv_at hl 0 rfl) ?_
      refine lv_i2l hx hb dL_law_1417 rfl ?_
      refine lv_lcmp hx hb dL_law_1418 (fun v hv => ?_)
      refine lv_if_eq (tgt := 1424) hx hb dL_law_1419 (by decide) (fun h0 => ?_) (fun h0 => ?_)
      · rw [if_pos (hv.mp h0)] at hm
        cases Option.some.inj hm
        refine lv_goto (tgt := 1689) hx hb dL_law_1424 (by decide) ?_
        exact kk A1 H locs ls hw (lv_sub hl [2, 3, 4, 5, 6, 7] rfl)
      · rw [if_neg (fun h => h0 (hv.mpr h))] at hm
        cases hm
  · rw [if_neg hq] at hm
    cases hm
set_option maxHeartbeats 4000000 in
set_option maxRecDepth 100000 in
theorem k_law_22 {p : Program} {l : Launch} {e : Env} {s : State} {m : MethodId} {below : List Frame} {meth : Method} {c : Code} {H : Heap} {locs : List Loc} {cells slots : Nat} {Q : State → Prop} {D : va_G} {cy : Nat → ClassId} {A : Nat → Nat} {G G1 : Nat → Bool} {M M1 : Mem} {b L i : Nat} {xs : Nat → Int32} {ls : Array Slot} (C0 : LC p l s m c b L xs D cy) (hw : WD D cy (LAs s) A s.heap G M H locs) (hl : lv_has ls 8 [(5, .int (nI i)), (0, .ref b), (1, .ref (A 0)), (2, .ref (A 3)), (3, .ref (A 6)), (4, .ref (A 7))]) (hi : i + 4 ≤ L) (hcs : cells + 50 ≤ 601024 ∧ slots + 3520 ≤ 7293034) (hm : s_22 (xs (i + 1)) (xs (i + 2)) G M = some (G1, M1))
    (kk : ∀ (A1 : Nat → Nat) (H1 : Heap) (locs1 : List Loc) (ls1 : Array Slot), WD D cy (LAs s) A1 s.heap G1 M1 H1 locs1 → lv_has ls1 8 [(5, .int (nI i)), (0, .ref b), (1, .ref (A1 0)), (2, .ref (A1 3)), (3, .ref (A1 6)), (4, .ref (A1 7))] → W p l e room_1 s m #[Value.ref b] below meth c H1 locs1 (cells + 50) (slots + 3520) Q (F0 m 1689 ls1 [])) : W p l e room_1 s m #[Value.ref b] below meth c H locs cells slots Q (F0 m 1427 ls []) := by
  obtain ⟨hx, hb, hml, hown, hts, hK, hR, hT, hN, hX, hbl, hL, hfl⟩ := C0
  have hA : ∀ q, s.heap.size ≤ q → LAs s q := fun _ h => h
  unfold s_22 at hm
  refine lv_aload_n hx hb dL_law_1427 rfl (lv_at hl 2 rfl) ?_
  refine lv_aload_n hx hb dL_law_1428 rfl (lv_at hl 1 rfl) ?_
  refine lv_iload hx hb dL_law_1429 (lv_at hl 0 rfl) ?_
  refine lv_iconst (v := 1) hx hb dL_law_1431 rfl ?_
  refine lv_iadd hx hb dL_law_1432 ?_
  refine xl (k := 1) hx hb hX hbl hL hw rfl (by omega) dL_law_1433 ?_
  refine lv_aload_n hx hb dL_law_1434 rfl (lv_at hl 1 rfl) ?_
  refine lv_iload hx hb dL_law_1435 (lv_at hl 0 rfl) ?_
  refine lv_iconst (v := 2) hx hb dL_law_1437 rfl ?_
  refine lv_iadd hx hb dL_law_1438 ?_
  refine xl (k := 2) hx hb hX hbl hL hw rfl (by omega) dL_law_1439 ?_
  refine lv_aload_n hx hb dL_law_1440 rfl (lv_at hl 4 rfl) ?_
  obtain ⟨w, e1, hm⟩ := Option.bind_eq_some_iff.mp hm
  refine kW hx hb hml hts hown hK hR hT hN hA hw (c_L_firstEntry l hfl e1) (mkSW 4 hts k_ml_RL_173 k_st_yL_firstEntry k_in_RL k_cw_yL_firstEntry hd_L_firstEntry ⟨Nat.le_of_ble_eq_true rfl, Nat.le_of_ble_eq_true rfl⟩) rfl hl.1 rfl (Nat.le_of_ble_eq_true rfl) dL_law_1441 ⟨Nat.le_trans (Nat.add_le_add_left (Nat.le_of_ble_eq_true rfl) _) hcs.1, Nat.le_trans (Nat.add_le_add_left (Nat.le_of_ble_eq_true rfl) _) hcs.2⟩ (fun A1 hAA H locs hw => ?_)
  refine kwid2 (mc := 4) (ms := 24) (Nat.le_of_ble_eq_true rfl) (Nat.le_of_ble_eq_true rfl) ?_
  have hl : lv_has ls 8 [(5, .int (nI i)), (0, .ref b), (1, .ref (A1 0)), (2, .ref (A1 3)), (3, .ref (A1 6)), (4, .ref (A1 7))] := by
    rw [(hAA 0 (sm_in (by omega))).1, (hAA 3 (sm_in (by omega))).1, (hAA 6 (sm_in (by omega))).1, (hAA 7 (sm_in (by omega))).1]
    exact hl
  refine lv_istore (lv' := [(6, .int w.1), (5, .int (nI i)), (0, .ref b), (1, .ref (A1 0)), (2, .ref (A1 3)), (3, .ref (A1 6)), (4, .ref (A1 7))]) hx hb dL_law_1444 hl (by decide) rfl (fun ls hl => ?_)
  refine lv_aload_n hx hb dL_law_1446 rfl (lv_at hl 4 rfl) ?_
  refine lv_aload_n hx hb dL_law_1447 rfl (lv_at hl 2 rfl) ?_
  refine lv_iload hx hb dL_law_1448 (lv_at hl 1 rfl) ?_
  refine lv_iconst (v := 1) hx hb dL_law_1450 rfl ?_
  refine lv_iadd hx hb dL_law_1451 ?_
  refine xl (k := 1) hx hb hX hbl hL hw rfl (by omega) dL_law_1452 ?_
  refine lv_aload_n hx hb dL_law_1453 rfl (lv_at hl 2 rfl) ?_
  refine lv_iload hx hb dL_law_1454 (lv_at hl 1 rfl) ?_
  refine lv_iconst (v := 2) hx hb dL_law_1456 rfl ?_
  refine lv_iadd hx hb dL_law_1457 ?_
  refine xl (k := 2) hx hb hX hbl hL hw rfl (by omega) dL_law_1458 ?_
  obtain ⟨z, ez, hm⟩ := Option.bind_eq_some_iff.mp hm
  refine ki hw hA (rV hx hb hml hts hown hK hw (c_X6_firstEntry l (⟨rfl, sm_in (by omega)⟩ : TT w.2.1 5 3) ez) (⟨rfl, sm_in (by omega)⟩ : TT w.2.1 5 3) (by decide) rfl (mkV 2 hts k_ml_RL_175 k_im_yX6_firstEntry k_se_yX6_firstEntry k_in_RX6 k_co_yX6_firstEntry hd_X6_firstEntry ⟨Nat.le_of_ble_eq_true rfl, Nat.le_of_ble_eq_true rfl⟩) rfl hl.1 rfl (Nat.le_of_ble_eq_true rfl) dL_law_1459 ⟨hcs.1, hcs.2⟩) (fun H locs hw => ?_)
  refine lv_istore (lv' := [(7, .int z.1), (6, .int w.1), (5, .int (nI i)), (0, .ref b), (1, .ref (A1 0)), (2, .ref (A1 3)), (3, .ref (A1 6)), (4, .ref (A1 7))]) hx hb dL_law_1462 hl (by decide) rfl (fun ls hl => ?_)
  refine lv_aload_n hx hb dL_law_1464 rfl (lv_at hl 5 rfl) ?_
  refine ki hw hA (rV hx hb hml hts hown hK hw (c_X6_thrown l (⟨rfl, sm_in (by omega)⟩ : TT w.2.1 5 3)) (⟨rfl, sm_in (by omega)⟩ : TT w.2.1 5 3) (by decide) rfl (mkV 0 hts k_ml_RL_101 k_im_yX6_thrown k_se_yX6_thrown k_in_RX6 k_co_yX6_thrown hd_X6_thrown ⟨Nat.le_of_ble_eq_true rfl, Nat.le_of_ble_eq_true rfl⟩) rfl hl.1 rfl (Nat.le_of_ble_eq_true rfl) dL_law_1465 ⟨hcs.1, hcs.2⟩) (fun H locs hw => ?_)
  refine lv_iload hx hb dL_law_1468 (lv_at hl 1 rfl) ?_
  refine lv_icmp_eq (tgt := 1475) hx hb dL_law_1470 (by decide) (fun hq => ?_) (fun hq => ?_)
  · rw [if_pos hq] at hm
    refine lv_iload hx hb dL_law_1475 (lv_at hl 1 rfl) ?_
    refine lv_if_ne (tgt := 1492) hx hb dL_law_1477 (by decide) (fun hq0 => ?_) (fun hq0 => ?_)
    · rw [if_neg hq0] at hm
      cases Option.some.inj hm
      refine lv_goto (tgt := 1689) hx hb dL_law_1492 (by decide) ?_
      exact kk A1 H locs ls hw (lv_sub hl [2, 3, 4, 5, 6, 7] rfl)
    · rw [if_pos hq0] at hm
      refine lv_aload_n hx hb dL_law_1480 rfl (lv_at hl 6 rfl) ?_
      refine lv_iconst (v := 0) hx hb dL_law_1481 rfl ?_
      refine gL hx hb hK hw dL_law_1482 ?_
      refine lv_iload hx hb dL_law_1483 (lv_at hl 0 rfl) ?_
      refine lv_i2l hx hb dL_law_1485 rfl ?_
      refine lv_lcmp hx hb dL_law_1486 (fun v hv => ?_)
      refine lv_if_eq (tgt := 1492) hx hb dL_law_1487 (by decide) (fun h0 => ?_) (fun h0 => ?_)
      · rw [if_pos (hv.mp h0)] at hm
        cases Option.some.inj hm
        refine lv_goto (tgt := 1689) hx hb dL_law_1492 (by decide) ?_
        exact kk A1 H locs ls hw (lv_sub hl [2, 3, 4, 5, 6, 7] rfl)
      · rw [if_neg (fun h => h0 (hv.mpr h))] at hm
        cases hm
  · rw [if_neg hq] at hm
    cases hm
set_option maxHeartbeats 4000000 in
set_option maxRecDepth 100000 in
theorem k_law_23 {p : Program} {l : Launch} {e : Env} {s : State} {m : MethodId} {below : List Frame} {meth : Method} {c : Code} {H : Heap} {locs : List Loc} {cells slots : Nat} {Q : State → Prop} {D : va_G} {cy : Nat → ClassId} {A : Nat → Nat} {G G1 : Nat → Bool} {M M1 : Mem} {b L i : Nat} {xs : Nat → Int32} {ls : Array Slot} (C0 : LC p l s m c b L xs D cy) (hw : WD D cy (LAs s) A s.heap G M H locs) (hl : lv_has ls 8 [(5, .int (nI i)), (0, .ref b), (1, .ref (A 0)), (2, .ref (A 3)), (3, .ref (A 6)), (4, .ref (A 7))]) (hi : i + 4 ≤ L) (hcs : cells + 50 ≤ 601024 ∧ slots + 3520 ≤ 7293034) (hm : s_23 (xs (i + 1)) (xs (i + 2)) (xs (i + 3)) G M = some (G1, M1))
    (kk : ∀ (A1 : Nat → Nat) (H1 : Heap) (locs1 : List Loc) (ls1 : Array Slot), WD D cy (LAs s) A1 s.heap G1 M1 H1 locs1 → lv_has ls1 8 [(5, .int (nI i)), (0, .ref b), (1, .ref (A1 0)), (2, .ref (A1 3)), (3, .ref (A1 6)), (4, .ref (A1 7))] → W p l e room_1 s m #[Value.ref b] below meth c H1 locs1 (cells + 50) (slots + 3520) Q (F0 m 1689 ls1 [])) : W p l e room_1 s m #[Value.ref b] below meth c H locs cells slots Q (F0 m 1495 ls []) := by
  obtain ⟨hx, hb, hml, hown, hts, hK, hR, hT, hN, hX, hbl, hL, hfl⟩ := C0
  have hA : ∀ q, s.heap.size ≤ q → LAs s q := fun _ h => h
  unfold s_23 at hm
  refine lv_aload_n hx hb dL_law_1495 rfl (lv_at hl 2 rfl) ?_
  refine lv_aload_n hx hb dL_law_1496 rfl (lv_at hl 1 rfl) ?_
  refine lv_iload hx hb dL_law_1497 (lv_at hl 0 rfl) ?_
  refine lv_iconst (v := 1) hx hb dL_law_1499 rfl ?_
  refine lv_iadd hx hb dL_law_1500 ?_
  refine xl (k := 1) hx hb hX hbl hL hw rfl (by omega) dL_law_1501 ?_
  refine lv_aload_n hx hb dL_law_1502 rfl (lv_at hl 1 rfl) ?_
  refine lv_iload hx hb dL_law_1503 (lv_at hl 0 rfl) ?_
  refine lv_iconst (v := 2) hx hb dL_law_1505 rfl ?_
  refine lv_iadd hx hb dL_law_1506 ?_
  refine xl (k := 2) hx hb hX hbl hL hw rfl (by omega) dL_law_1507 ?_
  refine lv_aload_n hx hb dL_law_1508 rfl (lv_at hl 1 rfl) ?_
  refine lv_iload hx hb dL_law_1509 (lv_at hl 0 rfl) ?_
  refine lv_iconst (v := 3) hx hb dL_law_1511 rfl ?_
  refine lv_iadd hx hb dL_law_1512 ?_
  refine xl (k := 3) hx hb hX hbl hL hw rfl (by omega) dL_law_1513 ?_
  refine lv_aload_n hx hb dL_law_1514 rfl (lv_at hl 4 rfl) ?_
  obtain ⟨w, e1, hm⟩ := Option.bind_eq_some_iff.mp hm
  refine kW hx hb hml hts hown hK hR hT hN hA hw (c_L_member l hfl e1) (mkSW 5 hts k_ml_RL_176 k_st_yL_member k_in_RL k_cw_yL_member hd_L_member ⟨Nat.le_of_ble_eq_true rfl, Nat.le_of_ble_eq_true rfl⟩) rfl hl.1 rfl (Nat.le_of_ble_eq_true rfl) dL_law_1515 ⟨Nat.le_trans (Nat.add_le_add_left (Nat.le_of_ble_eq_true rfl) _) hcs.1, Nat.le_trans (Nat.add_le_add_left (Nat.le_of_ble_eq_true rfl) _) hcs.2⟩ (fun A1 hAA H locs hw => ?_)
  refine kwid2 (mc := 4) (ms := 24) (Nat.le_of_ble_eq_true rfl) (Nat.le_of_ble_eq_true rfl) ?_
  have hl : lv_has ls 8 [(5, .int (nI i)), (0, .ref b), (1, .ref (A1 0)), (2, .ref (A1 3)), (3, .ref (A1 6)), (4, .ref (A1 7))] := by
    rw [(hAA 0 (sm_in (by omega))).1, (hAA 3 (sm_in (by omega))).1, (hAA 6 (sm_in (by omega))).1, (hAA 7 (sm_in (by omega))).1]
    exact hl
  refine lv_istore (lv' := [(6, .int w.1), (5, .int (nI i)), (0, .ref b), (1, .ref (A1 0)), (2, .ref (A1 3)), (3, .ref (A1 6)), (4, .ref (A1 7))]) hx hb dL_law_1518 hl (by decide) rfl (fun ls hl => ?_)
  refine lv_aload_n hx hb dL_law_1520 rfl (lv_at hl 4 rfl) ?_
  refine lv_aload_n hx hb dL_law_1521 rfl (lv_at hl 2 rfl) ?_
  refine lv_iload hx hb dL_law_1522 (lv_at hl 1 rfl) ?_
  refine lv_iconst (v := 1) hx hb dL_law_1524 rfl ?_
  refine lv_iadd hx hb dL_law_1525 ?_
  refine xl (k := 1) hx hb hX hbl hL hw rfl (by omega) dL_law_1526 ?_
  refine lv_aload_n hx hb dL_law_1527 rfl (lv_at hl 2 rfl) ?_
  refine lv_iload hx hb dL_law_1528 (lv_at hl 1 rfl) ?_
  refine lv_iconst (v := 2) hx hb dL_law_1530 rfl ?_
  refine lv_iadd hx hb dL_law_1531 ?_
  refine xl (k := 2) hx hb hX hbl hL hw rfl (by omega) dL_law_1532 ?_
  refine lv_aload_n hx hb dL_law_1533 rfl (lv_at hl 2 rfl) ?_
  refine lv_iload hx hb dL_law_1534 (lv_at hl 1 rfl) ?_
  refine lv_iconst (v := 3) hx hb dL_law_1536 rfl ?_
  refine lv_iadd hx hb dL_law_1537 ?_
  refine xl (k := 3) hx hb hX hbl hL hw rfl (by omega) dL_law_1538 ?_
  obtain ⟨z, ez, hm⟩ := Option.bind_eq_some_iff.mp hm
  refine ki hw hA (rV hx hb hml hts hown hK hw (c_X6_member l (⟨rfl, sm_in (by omega)⟩ : TT w.2.1 5 3) ez) (⟨rfl, sm_in (by omega)⟩ : TT w.2.1 5 3) (by decide) rfl (mkV 3 hts k_ml_RL_178 k_im_yX6_member k_se_yX6_member k_in_RX6 k_co_yX6_member hd_X6_member ⟨Nat.le_of_ble_eq_true rfl, Nat.le_of_ble_eq_true rfl⟩) rfl hl.1 rfl (Nat.le_of_ble_eq_true rfl) dL_law_1539 ⟨hcs.1, hcs.2⟩) (fun H locs hw => ?_)
  refine lv_istore (lv' := [(7, .int z.1), (6, .int w.1), (5, .int (nI i)), (0, .ref b), (1, .ref (A1 0)), (2, .ref (A1 3)), (3, .ref (A1 6)), (4, .ref (A1 7))]) hx hb dL_law_1542 hl (by decide) rfl (fun ls hl => ?_)
  refine lv_aload_n hx hb dL_law_1544 rfl (lv_at hl 5 rfl) ?_
  refine ki hw hA (rV hx hb hml hts hown hK hw (c_X6_thrown l (⟨rfl, sm_in (by omega)⟩ : TT w.2.1 5 3)) (⟨rfl, sm_in (by omega)⟩ : TT w.2.1 5 3) (by decide) rfl (mkV 0 hts k_ml_RL_101 k_im_yX6_thrown k_se_yX6_thrown k_in_RX6 k_co_yX6_thrown hd_X6_thrown ⟨Nat.le_of_ble_eq_true rfl, Nat.le_of_ble_eq_true rfl⟩) rfl hl.1 rfl (Nat.le_of_ble_eq_true rfl) dL_law_1545 ⟨hcs.1, hcs.2⟩) (fun H locs hw => ?_)
  refine lv_iload hx hb dL_law_1548 (lv_at hl 1 rfl) ?_
  refine lv_icmp_eq (tgt := 1555) hx hb dL_law_1550 (by decide) (fun hq => ?_) (fun hq => ?_)
  · rw [if_pos hq] at hm
    refine lv_iload hx hb dL_law_1555 (lv_at hl 1 rfl) ?_
    refine lv_if_ne (tgt := 1572) hx hb dL_law_1557 (by decide) (fun hq0 => ?_) (fun hq0 => ?_)
    · rw [if_neg hq0] at hm
      cases Option.some.inj hm
      refine lv_goto (tgt := 1689) hx hb dL_law_1572 (by decide) ?_
      exact kk A1 H locs ls hw (lv_sub hl [2, 3, 4, 5, 6, 7] rfl)
    · rw [if_pos hq0] at hm
      refine lv_aload_n hx hb dL_law_1560 rfl (lv_at hl 6 rfl) ?_
      refine lv_iconst (v := 0) hx hb dL_law_1561 rfl ?_
      refine gL hx hb hK hw dL_law_1562 ?_
      refine lv_iload hx hb dL_law_1563 (lv_at hl 0 rfl) ?_
      refine lv_i2l hx hb dL_law_1565 rfl ?_
      refine lv_lcmp hx hb dL_law_1566 (fun v hv => ?_)
      refine lv_if_eq (tgt := 1572) hx hb dL_law_1567 (by decide) (fun h0 => ?_) (fun h0 => ?_)
      · rw [if_pos (hv.mp h0)] at hm
        cases Option.some.inj hm
        refine lv_goto (tgt := 1689) hx hb dL_law_1572 (by decide) ?_
        exact kk A1 H locs ls hw (lv_sub hl [2, 3, 4, 5, 6, 7] rfl)
      · rw [if_neg (fun h => h0 (hv.mpr h))] at hm
        cases hm
  · rw [if_neg hq] at hm
    cases hm
set_option maxHeartbeats 4000000 in
set_option maxRecDepth 100000 in
theorem k_law_24 {p : Program} {l : Launch} {e : Env} {s : State} {m : MethodId} {below : List Frame} {meth : Method} {c : Code} {H : Heap} {locs : List Loc} {cells slots : Nat} {Q : State → Prop} {D : va_G} {cy : Nat → ClassId} {A : Nat → Nat} {G G1 : Nat → Bool} {M M1 : Mem} {b L i : Nat} {xs : Nat → Int32} {ls : Array Slot} (C0 : LC p l s m c b L xs D cy) (hw : WD D cy (LAs s) A s.heap G M H locs) (hl : lv_has ls 8 [(5, .int (nI i)), (0, .ref b), (1, .ref (A 0)), (2, .ref (A 3)), (3, .ref (A 6)), (4, .ref (A 7))]) (hi : i + 4 ≤ L) (hcs : cells + 50 ≤ 601024 ∧ slots + 3520 ≤ 7293034) (hm : s_24 (xs (i + 1)) G M = some (G1, M1))
    (kk : ∀ (A1 : Nat → Nat) (H1 : Heap) (locs1 : List Loc) (ls1 : Array Slot), WD D cy (LAs s) A1 s.heap G1 M1 H1 locs1 → lv_has ls1 8 [(5, .int (nI i)), (0, .ref b), (1, .ref (A1 0)), (2, .ref (A1 3)), (3, .ref (A1 6)), (4, .ref (A1 7))] → W p l e room_1 s m #[Value.ref b] below meth c H1 locs1 (cells + 50) (slots + 3520) Q (F0 m 1689 ls1 [])) : W p l e room_1 s m #[Value.ref b] below meth c H locs cells slots Q (F0 m 1575 ls []) := by
  obtain ⟨hx, hb, hml, hown, hts, hK, hR, hT, hN, hX, hbl, hL, hfl⟩ := C0
  have hA : ∀ q, s.heap.size ≤ q → LAs s q := fun _ h => h
  unfold s_24 at hm
  refine lv_aload_n hx hb dL_law_1575 rfl (lv_at hl 2 rfl) ?_
  refine lv_aload_n hx hb dL_law_1576 rfl (lv_at hl 1 rfl) ?_
  refine lv_iload hx hb dL_law_1577 (lv_at hl 0 rfl) ?_
  refine lv_iconst (v := 1) hx hb dL_law_1579 rfl ?_
  refine lv_iadd hx hb dL_law_1580 ?_
  refine xl (k := 1) hx hb hX hbl hL hw rfl (by omega) dL_law_1581 ?_
  refine lv_aload_n hx hb dL_law_1582 rfl (lv_at hl 4 rfl) ?_
  obtain ⟨w, e1, hm⟩ := Option.bind_eq_some_iff.mp hm
  refine kW hx hb hml hts hown hK hR hT hN hA hw (c_L_underReplicated l hfl e1) (mkSW 3 hts k_ml_RL_179 k_st_yL_underReplicated k_in_RL k_cw_yL_underReplicated hd_L_underReplicated ⟨Nat.le_of_ble_eq_true rfl, Nat.le_of_ble_eq_true rfl⟩) rfl hl.1 rfl (Nat.le_of_ble_eq_true rfl) dL_law_1583 ⟨Nat.le_trans (Nat.add_le_add_left (Nat.le_of_ble_eq_true rfl) _) hcs.1, Nat.le_trans (Nat.add_le_add_left (Nat.le_of_ble_eq_true rfl) _) hcs.2⟩ (fun A1 hAA H locs hw => ?_)
  refine kwid2 (mc := 4) (ms := 24) (Nat.le_of_ble_eq_true rfl) (Nat.le_of_ble_eq_true rfl) ?_
  have hl : lv_has ls 8 [(5, .int (nI i)), (0, .ref b), (1, .ref (A1 0)), (2, .ref (A1 3)), (3, .ref (A1 6)), (4, .ref (A1 7))] := by
    rw [(hAA 0 (sm_in (by omega))).1, (hAA 3 (sm_in (by omega))).1, (hAA 6 (sm_in (by omega))).1, (hAA 7 (sm_in (by omega))).1]
    exact hl
  refine lv_istore (lv' := [(6, .int w.1), (5, .int (nI i)), (0, .ref b), (1, .ref (A1 0)), (2, .ref (A1 3)), (3, .ref (A1 6)), (4, .ref (A1 7))]) hx hb dL_law_1586 hl (by decide) rfl (fun ls hl => ?_)
  refine lv_aload_n hx hb dL_law_1588 rfl (lv_at hl 4 rfl) ?_
  refine lv_aload_n hx hb dL_law_1589 rfl (lv_at hl 2 rfl) ?_
  refine lv_iload hx hb dL_law_1590 (lv_at hl 1 rfl) ?_
  refine lv_iconst (v := 1) hx hb dL_law_1592 rfl ?_
  refine lv_iadd hx hb dL_law_1593 ?_
  refine xl (k := 1) hx hb hX hbl hL hw rfl (by omega) dL_law_1594 ?_
  obtain ⟨z, ez, hm⟩ := Option.bind_eq_some_iff.mp hm
  refine ki hw hA (rV hx hb hml hts hown hK hw (c_X6_underReplicated l (⟨rfl, sm_in (by omega)⟩ : TT w.2.1 5 3) ez) (⟨rfl, sm_in (by omega)⟩ : TT w.2.1 5 3) (by decide) rfl (mkV 1 hts k_ml_RL_181 k_im_yX6_underReplicated k_se_yX6_underReplicated k_in_RX6 k_co_yX6_underReplicated hd_X6_underReplicated ⟨Nat.le_of_ble_eq_true rfl, Nat.le_of_ble_eq_true rfl⟩) rfl hl.1 rfl (Nat.le_of_ble_eq_true rfl) dL_law_1595 ⟨hcs.1, hcs.2⟩) (fun H locs hw => ?_)
  refine lv_istore (lv' := [(7, .int z.1), (6, .int w.1), (5, .int (nI i)), (0, .ref b), (1, .ref (A1 0)), (2, .ref (A1 3)), (3, .ref (A1 6)), (4, .ref (A1 7))]) hx hb dL_law_1598 hl (by decide) rfl (fun ls hl => ?_)
  refine lv_aload_n hx hb dL_law_1600 rfl (lv_at hl 5 rfl) ?_
  refine ki hw hA (rV hx hb hml hts hown hK hw (c_X6_thrown l (⟨rfl, sm_in (by omega)⟩ : TT w.2.1 5 3)) (⟨rfl, sm_in (by omega)⟩ : TT w.2.1 5 3) (by decide) rfl (mkV 0 hts k_ml_RL_101 k_im_yX6_thrown k_se_yX6_thrown k_in_RX6 k_co_yX6_thrown hd_X6_thrown ⟨Nat.le_of_ble_eq_true rfl, Nat.le_of_ble_eq_true rfl⟩) rfl hl.1 rfl (Nat.le_of_ble_eq_true rfl) dL_law_1601 ⟨hcs.1, hcs.2⟩) (fun H locs hw => ?_)
  refine lv_iload hx hb dL_law_1604 (lv_at hl 1 rfl) ?_
  refine lv_icmp_eq (tgt := 1611) hx hb dL_law_1606 (by decide) (fun hq => ?_) (fun hq => ?_)
  · rw [if_pos hq] at hm
    refine lv_iload hx hb dL_law_1611 (lv_at hl 1 rfl) ?_
    refine lv_if_ne (tgt := 1628) hx hb dL_law_1613 (by decide) (fun hq0 => ?_) (fun hq0 => ?_)
    · rw [if_neg hq0] at hm
      cases Option.some.inj hm
      refine lv_goto (tgt := 1689) hx hb dL_law_1628 (by decide) ?_
      exact kk A1 H locs ls hw (lv_sub hl [2, 3, 4, 5, 6, 7] rfl)
    · rw [if_pos hq0] at hm
      refine lv_aload_n hx hb dL_law_1616 rfl (lv_at hl 6 rfl) ?_
      refine lv_iconst (v := 0) hx hb dL_law_1617 rfl ?_
      refine gL hx hb hK hw dL_law_1618 ?_
      refine lv_iload hx hb dL_law_1619 (lv_at hl 0 rfl) ?_
      refine lv_i2l hx hb dL_law_1621 rfl ?_
      refine lv_lcmp hx hb dL_law_1622 (fun v hv => ?_)
      refine lv_if_eq (tgt := 1628) hx hb dL_law_1623 (by decide) (fun h0 => ?_) (fun h0 => ?_)
      · rw [if_pos (hv.mp h0)] at hm
        cases Option.some.inj hm
        refine lv_goto (tgt := 1689) hx hb dL_law_1628 (by decide) ?_
        exact kk A1 H locs ls hw (lv_sub hl [2, 3, 4, 5, 6, 7] rfl)
      · rw [if_neg (fun h => h0 (hv.mpr h))] at hm
        cases hm
  · rw [if_neg hq] at hm
    cases hm
set_option maxHeartbeats 4000000 in
set_option maxRecDepth 100000 in
theorem k_law_25 {p : Program} {l : Launch} {e : Env} {s : State} {m : MethodId} {below : List Frame} {meth : Method} {c : Code} {H : Heap} {locs : List Loc} {cells slots : Nat} {Q : State → Prop} {D : va_G} {cy : Nat → ClassId} {A : Nat → Nat} {G G1 : Nat → Bool} {M M1 : Mem} {b L i : Nat} {xs : Nat → Int32} {ls : Array Slot} (C0 : LC p l s m c b L xs D cy) (hw : WD D cy (LAs s) A s.heap G M H locs) (hl : lv_has ls 8 [(5, .int (nI i)), (0, .ref b), (1, .ref (A 0)), (2, .ref (A 3)), (3, .ref (A 6)), (4, .ref (A 7))]) (hi : i + 4 ≤ L) (hcs : cells + 50 ≤ 601024 ∧ slots + 3520 ≤ 7293034) (hm : s_25  G M = some (G1, M1))
    (kk : ∀ (A1 : Nat → Nat) (H1 : Heap) (locs1 : List Loc) (ls1 : Array Slot), WD D cy (LAs s) A1 s.heap G1 M1 H1 locs1 → lv_has ls1 8 [(5, .int (nI i)), (0, .ref b), (1, .ref (A1 0)), (2, .ref (A1 3)), (3, .ref (A1 6)), (4, .ref (A1 7))] → W p l e room_1 s m #[Value.ref b] below meth c H1 locs1 (cells + 50) (slots + 3520) Q (F0 m 1689 ls1 [])) : W p l e room_1 s m #[Value.ref b] below meth c H locs cells slots Q (F0 m 1631 ls []) := by
  obtain ⟨hx, hb, hml, hown, hts, hK, hR, hT, hN, hX, hbl, hL, hfl⟩ := C0
  have hA : ∀ q, s.heap.size ≤ q → LAs s q := fun _ h => h
  unfold s_25 at hm
  refine lv_aload_n hx hb dL_law_1631 rfl (lv_at hl 2 rfl) ?_
  refine lv_aload_n hx hb dL_law_1632 rfl (lv_at hl 4 rfl) ?_
  obtain ⟨w, e1, hm⟩ := Option.bind_eq_some_iff.mp hm
  refine kW hx hb hml hts hown hK hR hT hN hA hw (c_L_undo l hfl e1) (mkSW 2 hts k_ml_RL_182 k_st_yL_undo k_in_RL k_cw_yL_undo hd_L_undo ⟨Nat.le_of_ble_eq_true rfl, Nat.le_of_ble_eq_true rfl⟩) rfl hl.1 rfl (Nat.le_of_ble_eq_true rfl) dL_law_1633 ⟨Nat.le_trans (Nat.add_le_add_left (Nat.le_of_ble_eq_true rfl) _) hcs.1, Nat.le_trans (Nat.add_le_add_left (Nat.le_of_ble_eq_true rfl) _) hcs.2⟩ (fun A1 hAA H locs hw => ?_)
  have hl : lv_has ls 8 [(5, .int (nI i)), (0, .ref b), (1, .ref (A1 0)), (2, .ref (A1 3)), (3, .ref (A1 6)), (4, .ref (A1 7))] := by
    rw [(hAA 0 (sm_in (by omega))).1, (hAA 3 (sm_in (by omega))).1, (hAA 6 (sm_in (by omega))).1, (hAA 7 (sm_in (by omega))).1]
    exact hl
  refine lv_istore (lv' := [(6, .int w.1), (5, .int (nI i)), (0, .ref b), (1, .ref (A1 0)), (2, .ref (A1 3)), (3, .ref (A1 6)), (4, .ref (A1 7))]) hx hb dL_law_1636 hl (by decide) rfl (fun ls hl => ?_)
  refine lv_aload_n hx hb dL_law_1638 rfl (lv_at hl 4 rfl) ?_
  obtain ⟨z, ez, hm⟩ := Option.bind_eq_some_iff.mp hm
  refine ki hw hA (rV hx hb hml hts hown hK hw (c_X6_undo l (⟨rfl, sm_in (by omega)⟩ : TT w.2.1 5 3) ez) (⟨rfl, sm_in (by omega)⟩ : TT w.2.1 5 3) (by decide) rfl (mkV 0 hts k_ml_RL_184 k_im_yX6_undo k_se_yX6_undo k_in_RX6 k_co_yX6_undo hd_X6_undo ⟨Nat.le_of_ble_eq_true rfl, Nat.le_of_ble_eq_true rfl⟩) rfl hl.1 rfl (Nat.le_of_ble_eq_true rfl) dL_law_1639 ⟨hcs.1, hcs.2⟩) (fun H locs hw => ?_)
  refine lv_istore (lv' := [(7, .int z.1), (6, .int w.1), (5, .int (nI i)), (0, .ref b), (1, .ref (A1 0)), (2, .ref (A1 3)), (3, .ref (A1 6)), (4, .ref (A1 7))]) hx hb dL_law_1642 hl (by decide) rfl (fun ls hl => ?_)
  refine lv_aload_n hx hb dL_law_1644 rfl (lv_at hl 5 rfl) ?_
  refine ki hw hA (rV hx hb hml hts hown hK hw (c_X6_thrown l (⟨rfl, sm_in (by omega)⟩ : TT w.2.1 5 3)) (⟨rfl, sm_in (by omega)⟩ : TT w.2.1 5 3) (by decide) rfl (mkV 0 hts k_ml_RL_101 k_im_yX6_thrown k_se_yX6_thrown k_in_RX6 k_co_yX6_thrown hd_X6_thrown ⟨Nat.le_of_ble_eq_true rfl, Nat.le_of_ble_eq_true rfl⟩) rfl hl.1 rfl (Nat.le_of_ble_eq_true rfl) dL_law_1645 ⟨hcs.1, hcs.2⟩) (fun H locs hw => ?_)
  refine lv_iload hx hb dL_law_1648 (lv_at hl 1 rfl) ?_
  refine lv_icmp_eq (tgt := 1655) hx hb dL_law_1650 (by decide) (fun hq => ?_) (fun hq => ?_)
  · rw [if_pos hq] at hm
    refine lv_iload hx hb dL_law_1655 (lv_at hl 1 rfl) ?_
    refine lv_if_ne (tgt := 1672) hx hb dL_law_1657 (by decide) (fun hq0 => ?_) (fun hq0 => ?_)
    · rw [if_neg hq0] at hm
      cases Option.some.inj hm
      refine lv_goto (tgt := 1689) hx hb dL_law_1672 (by decide) ?_
      exact kk A1 H locs ls hw (lv_sub hl [2, 3, 4, 5, 6, 7] rfl)
    · rw [if_pos hq0] at hm
      refine lv_aload_n hx hb dL_law_1660 rfl (lv_at hl 6 rfl) ?_
      refine lv_iconst (v := 0) hx hb dL_law_1661 rfl ?_
      refine gL hx hb hK hw dL_law_1662 ?_
      refine lv_iload hx hb dL_law_1663 (lv_at hl 0 rfl) ?_
      refine lv_i2l hx hb dL_law_1665 rfl ?_
      refine lv_lcmp hx hb dL_law_1666 (fun v hv => ?_)
      refine lv_if_eq (tgt := 1672) hx hb dL_law_1667 (by decide) (fun h0 => ?_) (fun h0 => ?_)
      · rw [if_pos (hv.mp h0)] at hm
        cases Option.some.inj hm
        refine lv_goto (tgt := 1689) hx hb dL_law_1672 (by decide) ?_
        exact kk A1 H locs ls hw (lv_sub hl [2, 3, 4, 5, 6, 7] rfl)
      · rw [if_neg (fun h => h0 (hv.mpr h))] at hm
        cases hm
  · rw [if_neg hq] at hm
    cases hm
set_option maxHeartbeats 4000000 in
set_option maxRecDepth 100000 in
theorem k_law_26 {p : Program} {l : Launch} {e : Env} {s : State} {m : MethodId} {below : List Frame} {meth : Method} {c : Code} {H : Heap} {locs : List Loc} {cells slots : Nat} {Q : State → Prop} {D : va_G} {cy : Nat → ClassId} {A : Nat → Nat} {G G1 : Nat → Bool} {M M1 : Mem} {b L i : Nat} {xs : Nat → Int32} {ls : Array Slot} (C0 : LC p l s m c b L xs D cy) (hw : WD D cy (LAs s) A s.heap G M H locs) (hl : lv_has ls 8 [(5, .int (nI i)), (0, .ref b), (1, .ref (A 0)), (2, .ref (A 3)), (3, .ref (A 6)), (4, .ref (A 7))]) (hi : i + 4 ≤ L) (hcs : cells + 50 ≤ 601024 ∧ slots + 3520 ≤ 7293034) (hm : s_26  G M = some (G1, M1))
    (kk : ∀ (A1 : Nat → Nat) (H1 : Heap) (locs1 : List Loc) (ls1 : Array Slot), WD D cy (LAs s) A1 s.heap G1 M1 H1 locs1 → lv_has ls1 8 [(5, .int (nI i)), (0, .ref b), (1, .ref (A1 0)), (2, .ref (A1 3)), (3, .ref (A1 6)), (4, .ref (A1 7))] → W p l e room_1 s m #[Value.ref b] below meth c H1 locs1 (cells + 50) (slots + 3520) Q (F0 m 1689 ls1 [])) : W p l e room_1 s m #[Value.ref b] below meth c H locs cells slots Q (F0 m 1675 ls []) := by
  obtain ⟨hx, hb, hml, hown, hts, hK, hR, hT, hN, hX, hbl, hL, hfl⟩ := C0
  have hA : ∀ q, s.heap.size ≤ q → LAs s q := fun _ h => h
  unfold s_26 at hm
  refine lv_aload_n hx hb dL_law_1675 rfl (lv_at hl 2 rfl) ?_
  obtain ⟨w, ew, hm⟩ := Option.bind_eq_some_iff.mp hm
  refine kl hw hA (rV hx hb hml hts hown hK hw (c_X5_digest l (⟨rfl, sm_in (by omega)⟩ : TT G 4 0) ew) (⟨rfl, sm_in (by omega)⟩ : TT G 4 0) (by decide) rfl (mkV 0 hts k_ml_RL_185 k_im_yX5_digest k_se_yX5_digest k_in_RX5 k_co_yX5_digest hd_X5_digest ⟨Nat.le_of_ble_eq_true rfl, Nat.le_of_ble_eq_true rfl⟩) rfl hl.1 rfl (Nat.le_of_ble_eq_true rfl) dL_law_1676 ⟨kle hcs.1, kle hcs.2⟩) (fun H locs hw => ?_)
  refine lv_aload_n hx hb dL_law_1679 rfl (lv_at hl 3 rfl) ?_
  obtain ⟨z, ez, hm⟩ := Option.bind_eq_some_iff.mp hm
  refine kl hw hA (rV hx hb hml hts hown hK hw (c_X6_digest l (⟨rfl, sm_in (by omega)⟩ : TT G 5 3) ez) (⟨rfl, sm_in (by omega)⟩ : TT G 5 3) (by decide) rfl (mkV 0 hts k_ml_RL_189 k_im_yX6_digest k_se_yX6_digest k_in_RX6 k_co_yX6_digest hd_X6_digest ⟨Nat.le_of_ble_eq_true rfl, Nat.le_of_ble_eq_true rfl⟩) rfl hl.1 rfl (Nat.le_of_ble_eq_true rfl) dL_law_1680 ⟨kle hcs.1, kle hcs.2⟩) (fun H locs hw => ?_)
  refine lv_lcmp hx hb dL_law_1683 (fun v hv => ?_)
  refine lv_if_eq (tgt := 1689) hx hb dL_law_1684 (by decide) (fun h0 => ?_) (fun h0 => ?_)
  · rw [if_pos (hv.mp h0)] at hm
    cases Option.some.inj hm
    exact kwid (kk A H locs ls hw (lv_sub hl [0, 1, 2, 3, 4, 5] rfl))
  · rw [if_neg (fun h => h0 (hv.mpr h))] at hm
    cases hm
