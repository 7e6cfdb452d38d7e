section LAWW
variable {p : Program} {l : Launch} {e : Env} {s : State} {m : MethodId} {below : List Frame} {meth : Method} {c : Code} {D : va_G} {cy : Nat → ClassId} {b L : Nat} {xs : Nat → Int32}
set_option maxHeartbeats 4000000 in
set_option maxRecDepth 100000 in
theorem LJ_705 (C0 : LC p l s m meth c b L xs D cy) : ∀ (B : Nat) (k77 : Nat → Int32 → Nat → Nat → Nat → Int32 → Int32 → Int32 → (Nat → Bool) → Mem → Option Int32) (jk77 : ∀ (v1 : Nat) (v2 : Int32) (v3 : Nat) (v4 : Nat) (v5 : Nat) (v6 : Int32) (v7 : Int32) (v8 : Int32) (G1 : Nat → Bool) (M : Mem) (hv1 : TT G1 4 v1) (hv3 : TR G1 4 v3) (hv4 : TR G1 4 v4) (hv5 : TR G1 8 v5) (h7 : G1 7 = true) (A1 : Nat → Nat), k77 v1 v2 v3 v4 v5 v6 v7 v8 G1 M = some 1 → ∀ (cells slots : Nat), cells + 50 * (B) ≤ 600130 ∧ slots + 3520 * (B) ≤ 7301080 → ∀ (H : Heap) (locs : List Loc), WD D cy (LAs s) A1 s.heap G1 M H locs → ∀ ls : Array Slot, lv_has ls 21 [(0, .ref b), (1, .ref (A1 v1)), (2, .int v2), (3, .ref (A1 v3)), (4, .ref (A1 v4)), (5, .ref (A1 v5)), (6, .int v6), (7, .int v7), (8, .int v8)] → WL p l e s m below meth c b H locs cells slots (F0 m 77 ls [])) (k654 : Nat → Int32 → Nat → Nat → Nat → Int32 → Int32 → Int32 → Int32 → (Nat → Bool) → Mem → Option Int32) (jk654 : ∀ (v1 : Nat) (v2 : Int32) (v3 : Nat) (v4 : Nat) (v5 : Nat) (v6 : Int32) (v7 : Int32) (v8 : Int32) (v19 : Int32) (G1 : Nat → Bool) (M : Mem) (hv1 : TT G1 4 v1) (hv3 : TR G1 4 v3) (hv4 : TR G1 4 v4) (hv5 : TR G1 8 v5) (h7 : G1 7 = true) (A1 : Nat → Nat), k654 v1 v2 v3 v4 v5 v6 v7 v8 v19 G1 M = some 1 → ∀ (cells slots : Nat), cells + 50 * (B) ≤ 600130 ∧ slots + 3520 * (B) ≤ 7301080 → ∀ (H : Heap) (locs : List Loc), WD D cy (LAs s) A1 s.heap G1 M H locs → ∀ ls : Array Slot, lv_has ls 21 [(0, .ref b), (1, .ref (A1 v1)), (2, .int v2), (3, .ref (A1 v3)), (4, .ref (A1 v4)), (5, .ref (A1 v5)), (6, .int v6), (7, .int v7), (8, .int v8), (19, .int v19)] → WL p l e s m below meth c b H locs cells slots (F0 m 654 ls [])) (v1 : Nat) (v2 : Int32) (v3 : Nat) (v4 : Nat) (v5 : Nat) (v6 : Int32) (v7 : Int32) (v8 : Int32) (v19 : Int32) (v20 : Int32) (G1 : Nat → Bool) (M : Mem) (hv1 : TT G1 4 v1) (hv3 : TR G1 4 v3) (hv4 : TR G1 4 v4) (hv5 : TR G1 8 v5) (h7 : G1 7 = true) (A1 : Nat → Nat), m_L_law_b705 L xs k77 k654 v1 v2 v3 v4 v5 v6 v7 v8 v19 v20 G1 M = some 1 → ∀ (cells slots : Nat), cells + 50 * (B) ≤ 600130 ∧ slots + 3520 * (B) ≤ 7301080 → ∀ (H : Heap) (locs : List Loc), WD D cy (LAs s) A1 s.heap G1 M H locs → ∀ ls : Array Slot, lv_has ls 21 [(0, .ref b), (1, .ref (A1 v1)), (2, .int v2), (3, .ref (A1 v3)), (4, .ref (A1 v4)), (5, .ref (A1 v5)), (6, .int v6), (7, .int v7), (8, .int v8), (19, .int v19), (20, .int v20)] → WL p l e s m below meth c b H locs cells slots (F0 m 705 ls []) := by
  obtain ⟨hx, hb, hr, hlocks, hml, hown, hts, hK, hX, hbl, hL⟩ := id C0
  have hA : ∀ q : Nat, s.heap.size ≤ q → LAs s q := fun _ h => h
  intro B k77 jk77 k654 jk654 v1 v2 v3 v4 v5 v6 v7 v8 v19 v20 G1 M hv1 hv3 hv4 hv5 h7 A1 hm cells slots hcs H locs hw ls hl
  unfold m_L_law_b705 at hm
  refine lv_iload hx hb dL_law_705 (lv_at hl 10 rfl) ?_
  refine lv_aload_n hx hb dL_law_707 rfl (lv_at hl 1 rfl) ?_
  refine lv_iload hx hb dL_law_708 (lv_at hl 9 rfl) ?_
  obtain ⟨z42, e43, hm⟩ := bd_some hm
  refine ki hw hA (rV hx hb hml hts hown hK hw (c_X5_appended l hv1 e43) hv1 (by decide) rfl (mkV 1 hts k_ml_RL_52 k_im_yX5_appended k_se_yX5_appended k_in_RX5 k_co_yX5_appended hd_X5_appended ⟨Nat.le_of_ble_eq_true rfl, Nat.le_of_ble_eq_true rfl⟩) rfl hl.1 rfl (Nat.le_of_ble_eq_true rfl) dL_law_710 ⟨show cells + 0 ≤ 600130 by omega, show slots + 0 ≤ 7301080 by omega⟩) (fun H locs hw => ?_)
  refine lv_icmp_lt (tgt := 718) hx hb dL_law_713 (by decide) (fun hq44 => ?_) (fun hq44 => ?_)
  · have hm := (if_pos hq44).symm.trans hm
    refine lv_aload hx hb dL_law_718 (lv_at hl 4 rfl) ?_
    refine lv_iload hx hb dL_law_720 (lv_at hl 9 rfl) ?_
    refine lv_iload hx hb dL_law_722 (lv_at hl 10 rfl) ?_
    refine lv_aload hx hb dL_law_724 (lv_at hl 4 rfl) ?_
    refine lv_iload hx hb dL_law_726 (lv_at hl 9 rfl) ?_
    obtain ⟨hi45, hm⟩ := ck_some hm
    refine gI hx hb hK hw hv4 hi45 dL_law_728 ?_
    refine lv_icmp_le (tgt := 737) hx hb dL_law_729 (by decide) (fun hq46 => ?_) (fun hq46 => ?_)
    · have hm := (if_pos hq46).symm.trans hm
      refine lv_aload hx hb dL_law_737 (lv_at hl 4 rfl) ?_
      refine lv_iload hx hb dL_law_739 (lv_at hl 9 rfl) ?_
      obtain ⟨hi47, hm⟩ := ck_some hm
      refine gI hx hb hK hw hv4 hi47 dL_law_741 ?_
      obtain ⟨hi48, hm⟩ := ck_some hm
      refine pI hx hb hK hw hv4 hi48 dL_law_742 (fun H locs hw => ?_)
      refine lv_iinc (v := (v19 + 1)) (lv' := [(19, .int (v19 + 1)), (0, .ref b), (1, .ref (A1 v1)), (2, .int v2), (3, .ref (A1 v3)), (4, .ref (A1 v4)), (5, .ref (A1 v5)), (6, .int v6), (7, .int v7), (8, .int v8), (20, .int v20)]) hx hb dL_law_743 hl (k := 9) rfl rfl (by decide) rfl (fun ls hl => ?_)
      refine lv_goto (tgt := 654) hx hb dL_law_746 (by decide) ?_
      exact jk654 v1 v2 v3 v4 v5 v6 v7 v8 (v19 + 1) G1 (aI v4 v19 (gR M v4 (cl v19)) M) hv1 hv3 hv4 hv5 h7 A1 hm cells slots ⟨by omega, by omega⟩ H locs hw ls (lv_sub hl [1, 2, 3, 4, 5, 6, 7, 8, 9, 0] rfl)
    · have hm := (if_neg hq46).symm.trans hm
      refine lv_iload hx hb dL_law_732 (lv_at hl 10 rfl) ?_
      refine lv_goto (tgt := 742) hx hb dL_law_734 (by decide) ?_
      obtain ⟨hi49, hm⟩ := ck_some hm
      refine pI hx hb hK hw hv4 hi49 dL_law_742 (fun H locs hw => ?_)
      refine lv_iinc (v := (v19 + 1)) (lv' := [(19, .int (v19 + 1)), (0, .ref b), (1, .ref (A1 v1)), (2, .int v2), (3, .ref (A1 v3)), (4, .ref (A1 v4)), (5, .ref (A1 v5)), (6, .int v6), (7, .int v7), (8, .int v8), (20, .int v20)]) hx hb dL_law_743 hl (k := 9) rfl rfl (by decide) rfl (fun ls hl => ?_)
      refine lv_goto (tgt := 654) hx hb dL_law_746 (by decide) ?_
      exact jk654 v1 v2 v3 v4 v5 v6 v7 v8 (v19 + 1) G1 (aI v4 v19 v20 M) hv1 hv3 hv4 hv5 h7 A1 hm cells slots ⟨by omega, by omega⟩ H locs hw ls (lv_sub hl [1, 2, 3, 4, 5, 6, 7, 8, 9, 0] rfl)
  · have hm := (if_neg hq44).symm.trans hm
    refine lv_iconst (v := 0) hx hb dL_law_716 (by decide) ?_
    exact absurd (Option.some.inj hm) (by decide)
set_option maxHeartbeats 4000000 in
set_option maxRecDepth 100000 in
theorem LJ_689 (C0 : LC p l s m meth c b L xs D cy) : ∀ (B : Nat) (k77 : Nat → Int32 → Nat → Nat → Nat → Int32 → Int32 → Int32 → (Nat → Bool) → Mem → Option Int32) (jk77 : ∀ (v1 : Nat) (v2 : Int32) (v3 : Nat) (v4 : Nat) (v5 : Nat) (v6 : Int32) (v7 : Int32) (v8 : Int32) (G1 : Nat → Bool) (M : Mem) (hv1 : TT G1 4 v1) (hv3 : TR G1 4 v3) (hv4 : TR G1 4 v4) (hv5 : TR G1 8 v5) (h7 : G1 7 = true) (A1 : Nat → Nat), k77 v1 v2 v3 v4 v5 v6 v7 v8 G1 M = some 1 → ∀ (cells slots : Nat), cells + 50 * (B) ≤ 600130 ∧ slots + 3520 * (B) ≤ 7301080 → ∀ (H : Heap) (locs : List Loc), WD D cy (LAs s) A1 s.heap G1 M H locs → ∀ ls : Array Slot, lv_has ls 21 [(0, .ref b), (1, .ref (A1 v1)), (2, .int v2), (3, .ref (A1 v3)), (4, .ref (A1 v4)), (5, .ref (A1 v5)), (6, .int v6), (7, .int v7), (8, .int v8)] → WL p l e s m below meth c b H locs cells slots (F0 m 77 ls [])) (k654 : Nat → Int32 → Nat → Nat → Nat → Int32 → Int32 → Int32 → Int32 → (Nat → Bool) → Mem → Option Int32) (jk654 : ∀ (v1 : Nat) (v2 : Int32) (v3 : Nat) (v4 : Nat) (v5 : Nat) (v6 : Int32) (v7 : Int32) (v8 : Int32) (v19 : Int32) (G1 : Nat → Bool) (M : Mem) (hv1 : TT G1 4 v1) (hv3 : TR G1 4 v3) (hv4 : TR G1 4 v4) (hv5 : TR G1 8 v5) (h7 : G1 7 = true) (A1 : Nat → Nat), k654 v1 v2 v3 v4 v5 v6 v7 v8 v19 G1 M = some 1 → ∀ (cells slots : Nat), cells + 50 * (B) ≤ 600130 ∧ slots + 3520 * (B) ≤ 7301080 → ∀ (H : Heap) (locs : List Loc), WD D cy (LAs s) A1 s.heap G1 M H locs → ∀ ls : Array Slot, lv_has ls 21 [(0, .ref b), (1, .ref (A1 v1)), (2, .int v2), (3, .ref (A1 v3)), (4, .ref (A1 v4)), (5, .ref (A1 v5)), (6, .int v6), (7, .int v7), (8, .int v8), (19, .int v19)] → WL p l e s m below meth c b H locs cells slots (F0 m 654 ls [])) (v1 : Nat) (v2 : Int32) (v3 : Nat) (v4 : Nat) (v5 : Nat) (v6 : Int32) (v7 : Int32) (v8 : Int32) (v19 : Int32) (v20 : Int32) (G1 : Nat → Bool) (M : Mem) (hv1 : TT G1 4 v1) (hv3 : TR G1 4 v3) (hv4 : TR G1 4 v4) (hv5 : TR G1 8 v5) (h7 : G1 7 = true) (A1 : Nat → Nat), m_L_law_b689 L xs k77 k654 v1 v2 v3 v4 v5 v6 v7 v8 v19 v20 G1 M = some 1 → ∀ (cells slots : Nat), cells + 50 * (B) ≤ 600130 ∧ slots + 3520 * (B) ≤ 7301080 → ∀ (H : Heap) (locs : List Loc), WD D cy (LAs s) A1 s.heap G1 M H locs → ∀ ls : Array Slot, lv_has ls 21 [(0, .ref b), (1, .ref (A1 v1)), (2, .int v2), (3, .ref (A1 v3)), (4, .ref (A1 v4)), (5, .ref (A1 v5)), (6, .int v6), (7, .int v7), (8, .int v8), (19, .int v19), (20, .int v20)] → WL p l e s m below meth c b H locs cells slots (F0 m 689 ls []) := by
  obtain ⟨hx, hb, hr, hlocks, hml, hown, hts, hK, hX, hbl, hL⟩ := id C0
  have hA : ∀ q : Nat, s.heap.size ≤ q → LAs s q := fun _ h => h
  intro B k77 jk77 k654 jk654 v1 v2 v3 v4 v5 v6 v7 v8 v19 v20 G1 M hv1 hv3 hv4 hv5 h7 A1 hm cells slots hcs H locs hw ls hl
  unfold m_L_law_b689 at hm
  refine lv_aload_n hx hb dL_law_689 rfl (lv_at hl 1 rfl) ?_
  refine lv_iload hx hb dL_law_690 (lv_at hl 9 rfl) ?_
  obtain ⟨z39, e40, hm⟩ := bd_some hm
  refine ki hw hA (rV hx hb hml hts hown hK hw (c_X5_state l hv1 e40) hv1 (by decide) rfl (mkV 1 hts k_ml_RL_42 k_im_yX5_state k_se_yX5_state k_in_RX5 k_co_yX5_state hd_X5_state ⟨Nat.le_of_ble_eq_true rfl, Nat.le_of_ble_eq_true rfl⟩) rfl hl.1 rfl (Nat.le_of_ble_eq_true rfl) dL_law_692 ⟨show cells + 0 ≤ 600130 by omega, show slots + 0 ≤ 7301080 by omega⟩) (fun H locs hw => ?_)
  refine lv_iconst (v := 1) hx hb dL_law_695 (by decide) ?_
  refine lv_icmp_ne (tgt := 705) hx hb dL_law_696 (by decide) (fun hq41 => ?_) (fun hq41 => ?_)
  · have hm := (if_neg hq41).symm.trans hm
    exact LJ_705 C0 B k77 jk77 k654 jk654 v1 v2 v3 v4 v5 v6 v7 v8 v19 v20 G1 M hv1 hv3 hv4 hv5 h7 A1 hm cells slots ⟨by omega, by omega⟩ H locs hw ls hl
  · have hm := (if_pos hq41).symm.trans hm
    refine lv_iload hx hb dL_law_699 (lv_at hl 10 rfl) ?_
    refine lv_iconst (v := (-1)) hx hb dL_law_701 (by decide) ?_
    refine lv_icmp_ne (tgt := 716) hx hb dL_law_702 (by decide) (fun hq50 => ?_) (fun hq50 => ?_)
    · have hm := (if_neg hq50).symm.trans hm
      refine lv_iconst (v := 0) hx hb dL_law_716 (by decide) ?_
      exact absurd (Option.some.inj hm) (by decide)
    · have hm := (if_pos hq50).symm.trans hm
      exact LJ_705 C0 B k77 jk77 k654 jk654 v1 v2 v3 v4 v5 v6 v7 v8 v19 v20 G1 M hv1 hv3 hv4 hv5 h7 A1 hm cells slots ⟨by omega, by omega⟩ H locs hw ls hl
set_option maxHeartbeats 4000000 in
set_option maxRecDepth 100000 in
theorem LJ_654 (C0 : LC p l s m meth c b L xs D cy) : ∀ (B : Nat) (k77 : Nat → Int32 → Nat → Nat → Nat → Int32 → Int32 → Int32 → (Nat → Bool) → Mem → Option Int32) (jk77 : ∀ (v1 : Nat) (v2 : Int32) (v3 : Nat) (v4 : Nat) (v5 : Nat) (v6 : Int32) (v7 : Int32) (v8 : Int32) (G1 : Nat → Bool) (M : Mem) (hv1 : TT G1 4 v1) (hv3 : TR G1 4 v3) (hv4 : TR G1 4 v4) (hv5 : TR G1 8 v5) (h7 : G1 7 = true) (A1 : Nat → Nat), k77 v1 v2 v3 v4 v5 v6 v7 v8 G1 M = some 1 → ∀ (cells slots : Nat), cells + 50 * (B) ≤ 600130 ∧ slots + 3520 * (B) ≤ 7301080 → ∀ (H : Heap) (locs : List Loc), WD D cy (LAs s) A1 s.heap G1 M H locs → ∀ ls : Array Slot, lv_has ls 21 [(0, .ref b), (1, .ref (A1 v1)), (2, .int v2), (3, .ref (A1 v3)), (4, .ref (A1 v4)), (5, .ref (A1 v5)), (6, .int v6), (7, .int v7), (8, .int v8)] → WL p l e s m below meth c b H locs cells slots (F0 m 77 ls [])) (n : Nat) (v1 : Nat) (v2 : Int32) (v3 : Nat) (v4 : Nat) (v5 : Nat) (v6 : Int32) (v7 : Int32) (v8 : Int32) (v19 : Int32) (G1 : Nat → Bool) (M : Mem) (hv1 : TT G1 4 v1) (hv3 : TR G1 4 v3) (hv4 : TR G1 4 v4) (hv5 : TR G1 8 v5) (h7 : G1 7 = true) (A1 : Nat → Nat), m_L_law_L654 L xs k77 n v1 v2 v3 v4 v5 v6 v7 v8 v19 G1 M = some 1 → ∀ (cells slots : Nat), cells + 50 * (B) ≤ 600130 ∧ slots + 3520 * (B) ≤ 7301080 → ∀ (H : Heap) (locs : List Loc), WD D cy (LAs s) A1 s.heap G1 M H locs → ∀ ls : Array Slot, lv_has ls 21 [(0, .ref b), (1, .ref (A1 v1)), (2, .int v2), (3, .ref (A1 v3)), (4, .ref (A1 v4)), (5, .ref (A1 v5)), (6, .int v6), (7, .int v7), (8, .int v8), (19, .int v19)] → WL p l e s m below meth c b H locs cells slots (F0 m 654 ls []) := by
  obtain ⟨hx, hb, hr, hlocks, hml, hown, hts, hK, hX, hbl, hL⟩ := id C0
  have hA : ∀ q : Nat, s.heap.size ≤ q → LAs s q := fun _ h => h
  intro B k77 jk77 n
  induction n with
  | zero =>
    intro v1 v2 v3 v4 v5 v6 v7 v8 v19 G1 M hv1 hv3 hv4 hv5 h7 A1 hm
    cases (show (none : Option Int32) = some 1 from hm)
  | succ n ih =>
    intro v1 v2 v3 v4 v5 v6 v7 v8 v19 G1 M hv1 hv3 hv4 hv5 h7 A1 hm cells slots hcs H locs hw ls hl
    have hm := (m_L_law_L654_s L xs k77 n v1 v2 v3 v4 v5 v6 v7 v8 v19 G1 M).symm.trans hm
    refine lv_iload hx hb dL_law_654 (lv_at hl 9 rfl) ?_
    refine lv_iload hx hb dL_law_656 (lv_at hl 6 rfl) ?_
    refine lv_icmp_ge (tgt := 749) hx hb dL_law_658 (by decide) (fun hq33 => ?_) (fun hq33 => ?_)
    · have hm := (if_pos hq33).symm.trans hm
      refine lv_iinc (v := (v8 + 1)) (lv' := [(8, .int (v8 + 1)), (0, .ref b), (1, .ref (A1 v1)), (2, .int v2), (3, .ref (A1 v3)), (4, .ref (A1 v4)), (5, .ref (A1 v5)), (6, .int v6), (7, .int v7), (19, .int v19)]) hx hb dL_law_749 hl (k := 8) rfl rfl (by decide) rfl (fun ls hl => ?_)
      refine lv_goto (tgt := 77) hx hb dL_law_752 (by decide) ?_
      exact jk77 v1 v2 v3 v4 v5 v6 v7 (v8 + 1) G1 M hv1 hv3 hv4 hv5 h7 A1 hm cells slots ⟨by omega, by omega⟩ H locs hw ls (lv_sub hl [1, 2, 3, 4, 5, 6, 7, 8, 0] rfl)
    · have hm := (if_neg hq33).symm.trans hm
      refine lv_aload_n hx hb dL_law_661 rfl (lv_at hl 1 rfl) ?_
      refine lv_iload hx hb dL_law_662 (lv_at hl 9 rfl) ?_
      obtain ⟨z34, e35, hm⟩ := bd_some hm
      refine ki hw hA (rV hx hb hml hts hown hK hw (c_X5_lastReadable l hv1 e35) hv1 (by decide) rfl (mkV 1 hts k_ml_RL_47 k_im_yX5_lastReadable k_se_yX5_lastReadable k_in_RX5 k_co_yX5_lastReadable hd_X5_lastReadable ⟨Nat.le_of_ble_eq_true rfl, Nat.le_of_ble_eq_true rfl⟩) rfl hl.1 rfl (Nat.le_of_ble_eq_true rfl) dL_law_664 ⟨show cells + 0 ≤ 600130 by omega, show slots + 0 ≤ 7301080 by omega⟩) (fun H locs hw => ?_)
      refine lv_istore (lv' := [(20, .int z34), (0, .ref b), (1, .ref (A1 v1)), (2, .int v2), (3, .ref (A1 v3)), (4, .ref (A1 v4)), (5, .ref (A1 v5)), (6, .int v6), (7, .int v7), (8, .int v8), (19, .int v19)]) hx hb dL_law_667 hl (by decide) rfl (fun ls hl => ?_)
      refine lv_aload_n hx hb dL_law_669 rfl (lv_at hl 2 rfl) ?_
      refine lv_iload hx hb dL_law_670 (lv_at hl 10 rfl) ?_
      obtain ⟨z36, e37, hm⟩ := bd_some hm
      refine ki hw hA (rV hx hb hml hts hown hK hw (c_X5_state l hv1 e37) hv1 (by decide) rfl (mkV 1 hts k_ml_RL_42 k_im_yX5_state k_se_yX5_state k_in_RX5 k_co_yX5_state hd_X5_state ⟨Nat.le_of_ble_eq_true rfl, Nat.le_of_ble_eq_true rfl⟩) rfl hl.1 rfl (Nat.le_of_ble_eq_true rfl) dL_law_672 ⟨show cells + 0 ≤ 600130 by omega, show slots + 0 ≤ 7301080 by omega⟩) (fun H locs hw => ?_)
      refine lv_iconst (v := 1) hx hb dL_law_675 (by decide) ?_
      refine lv_icmp_eq (tgt := 689) hx hb dL_law_676 (by decide) (fun hq38 => ?_) (fun hq38 => ?_)
      · have hm := (if_pos hq38).symm.trans hm
        exact LJ_689 C0 B k77 jk77 (fun w0 w1 w2 w3 w4 w5 w6 w7 w8 w9 w10 => m_L_law_L654 L xs k77 n w0 w1 w2 w3 w4 w5 w6 w7 w8 w9 w10) (fun w0 w1 w2 w3 w4 w5 w6 w7 w8 w9 w10 f0 f1 f2 f3 f4 A9 hh cells slots hcs H locs hw ls hl => ih w0 w1 w2 w3 w4 w5 w6 w7 w8 w9 w10 f0 f1 f2 f3 f4 A9 hh cells slots hcs H locs hw ls hl) v1 v2 v3 v4 v5 v6 v7 v8 v19 z34 G1 M hv1 hv3 hv4 hv5 h7 A1 hm cells slots ⟨by omega, by omega⟩ H locs hw ls (lv_sub hl [1, 2, 3, 4, 5, 6, 7, 8, 9, 10, 0] rfl)
      · have hm := (if_neg hq38).symm.trans hm
        refine lv_iload hx hb dL_law_679 (lv_at hl 0 rfl) ?_
        refine lv_aload hx hb dL_law_681 (lv_at hl 5 rfl) ?_
        refine lv_iload hx hb dL_law_683 (lv_at hl 10 rfl) ?_
        obtain ⟨hi51, hm⟩ := ck_some hm
        refine gI hx hb hK hw hv4 hi51 dL_law_685 ?_
        refine lv_icmp_lt (tgt := 716) hx hb dL_law_686 (by decide) (fun hq52 => ?_) (fun hq52 => ?_)
        · have hm := (if_pos hq52).symm.trans hm
          refine lv_iconst (v := 0) hx hb dL_law_716 (by decide) ?_
          exact absurd (Option.some.inj hm) (by decide)
        · have hm := (if_neg hq52).symm.trans hm
          exact LJ_689 C0 B k77 jk77 (fun w0 w1 w2 w3 w4 w5 w6 w7 w8 w9 w10 => m_L_law_L654 L xs k77 n w0 w1 w2 w3 w4 w5 w6 w7 w8 w9 w10) (fun w0 w1 w2 w3 w4 w5 w6 w7 w8 w9 w10 f0 f1 f2 f3 f4 A9 hh cells slots hcs H locs hw ls hl => ih w0 w1 w2 w3 w4 w5 w6 w7 w8 w9 w10 f0 f1 f2 f3 f4 A9 hh cells slots hcs H locs hw ls hl) v1 v2 v3 v4 v5 v6 v7 v8 v19 z34 G1 M hv1 hv3 hv4 hv5 h7 A1 hm cells slots ⟨by omega, by omega⟩ H locs hw ls (lv_sub hl [1, 2, 3, 4, 5, 6, 7, 8, 9, 10, 0] rfl)
set_option maxHeartbeats 4000000 in
set_option maxRecDepth 100000 in
theorem LJ_599 (C0 : LC p l s m meth c b L xs D cy) : ∀ (B : Nat) (k77 : Nat → Int32 → Nat → Nat → Nat → Int32 → Int32 → Int32 → (Nat → Bool) → Mem → Option Int32) (jk77 : ∀ (v1 : Nat) (v2 : Int32) (v3 : Nat) (v4 : Nat) (v5 : Nat) (v6 : Int32) (v7 : Int32) (v8 : Int32) (G1 : Nat → Bool) (M : Mem) (hv1 : TT G1 4 v1) (hv3 : TR G1 4 v3) (hv4 : TR G1 4 v4) (hv5 : TR G1 8 v5) (h7 : G1 7 = true) (A1 : Nat → Nat), k77 v1 v2 v3 v4 v5 v6 v7 v8 G1 M = some 1 → ∀ (cells slots : Nat), cells + 50 * (B) ≤ 600130 ∧ slots + 3520 * (B) ≤ 7301080 → ∀ (H : Heap) (locs : List Loc), WD D cy (LAs s) A1 s.heap G1 M H locs → ∀ ls : Array Slot, lv_has ls 21 [(0, .ref b), (1, .ref (A1 v1)), (2, .int v2), (3, .ref (A1 v3)), (4, .ref (A1 v4)), (5, .ref (A1 v5)), (6, .int v6), (7, .int v7), (8, .int v8)] → WL p l e s m below meth c b H locs cells slots (F0 m 77 ls [])) (v1 : Nat) (v2 : Int32) (v3 : Nat) (v4 : Nat) (v5 : Nat) (v6 : Int32) (v8 : Int32) (v9 : Int32) (v10 : Int32) (v13 : Int64) (v16 : Int32) (v17 : Int32) (u0 : Int32) (G1 : Nat → Bool) (M : Mem) (hv1 : TT G1 4 v1) (hv3 : TR G1 4 v3) (hv4 : TR G1 4 v4) (hv5 : TR G1 8 v5) (h7 : G1 7 = true) (A1 : Nat → Nat), m_L_law_b599 L xs k77 v1 v2 v3 v4 v5 v6 v8 v9 v10 v13 v16 v17 u0 G1 M = some 1 → ∀ (cells slots : Nat), cells + 50 * (B) ≤ 600130 ∧ slots + 3520 * (B) ≤ 7301080 → ∀ (H : Heap) (locs : List Loc), WD D cy (LAs s) A1 s.heap G1 M H locs → ∀ ls : Array Slot, lv_has ls 21 [(0, .ref b), (1, .ref (A1 v1)), (2, .int v2), (3, .ref (A1 v3)), (4, .ref (A1 v4)), (5, .ref (A1 v5)), (6, .int v6), (8, .int v8), (9, .int v9), (10, .int v10), (13, .long v13), (16, .int v16), (17, .int v17)] → WL p l e s m below meth c b H locs cells slots (F0 m 599 ls [.int u0]) := by
  obtain ⟨hx, hb, hr, hlocks, hml, hown, hts, hK, hX, hbl, hL⟩ := id C0
  have hA : ∀ q : Nat, s.heap.size ≤ q → LAs s q := fun _ h => h
  intro B k77 jk77 v1 v2 v3 v4 v5 v6 v8 v9 v10 v13 v16 v17 u0 G1 M hv1 hv3 hv4 hv5 h7 A1 hm cells slots hcs H locs hw ls hl
  unfold m_L_law_b599 at hm
  refine lv_istore (lv' := [(7, .int u0), (0, .ref b), (1, .ref (A1 v1)), (2, .int v2), (3, .ref (A1 v3)), (4, .ref (A1 v4)), (5, .ref (A1 v5)), (6, .int v6), (8, .int v8), (9, .int v9), (10, .int v10), (13, .long v13), (16, .int v16), (17, .int v17)]) hx hb dL_law_599 hl (by decide) rfl (fun ls hl => ?_)
  refine lv_iload hx hb dL_law_601 (lv_at hl 9 rfl) ?_
  refine lv_bipush (v := 26) hx hb dL_law_603 (by decide) ?_
  refine lv_ishr hx hb dL_law_605 ?_
  refine lv_iconst (v := 3) hx hb dL_law_606 (by decide) ?_
  refine lv_iand hx hb dL_law_607 ?_
  refine lv_if_ne (tgt := 651) hx hb dL_law_608 (by decide) (fun hq32 => ?_) (fun hq32 => ?_)
  · have hm := (if_neg hq32).symm.trans hm
    refine lv_iconst (v := 0) hx hb dL_law_651 (by decide) ?_
    refine lv_istore (lv' := [(19, .int 0), (7, .int u0), (0, .ref b), (1, .ref (A1 v1)), (2, .int v2), (3, .ref (A1 v3)), (4, .ref (A1 v4)), (5, .ref (A1 v5)), (6, .int v6), (8, .int v8), (9, .int v9), (10, .int v10), (13, .long v13), (16, .int v16), (17, .int v17)]) hx hb dL_law_652 hl (by decide) rfl (fun ls hl => ?_)
    exact LJ_654 C0 B k77 jk77 fuel v1 v2 v3 v4 v5 v6 u0 v8 0 G1 M hv1 hv3 hv4 hv5 h7 A1 hm cells slots ⟨by omega, by omega⟩ H locs hw ls (lv_sub hl [2, 3, 4, 5, 6, 7, 8, 1, 9, 0] rfl)
  · have hm := (if_pos hq32).symm.trans hm
    refine lv_iload hx hb dL_law_611 (lv_at hl 12 rfl) ?_
    refine lv_istore (lv' := [(6, .int v16), (7, .int u0), (0, .ref b), (1, .ref (A1 v1)), (2, .int v2), (3, .ref (A1 v3)), (4, .ref (A1 v4)), (5, .ref (A1 v5)), (8, .int v8), (9, .int v9), (10, .int v10), (13, .long v13), (16, .int v16), (17, .int v17)]) hx hb dL_law_613 hl (by decide) rfl (fun ls hl => ?_)
    refine lv_aload hx hb dL_law_615 (lv_at hl 7 rfl) ?_
    refine lv_iload hx hb dL_law_617 (lv_at hl 10 rfl) ?_
    refine lv_iload hx hb dL_law_619 (lv_at hl 13 rfl) ?_
    obtain ⟨hi53, hm⟩ := ck_some hm
    refine pI hx hb hK hw hv5 hi53 dL_law_621 (fun H locs hw => ?_)
    refine lv_aload_n hx hb dL_law_622 rfl (lv_at hl 3 rfl) ?_
    obtain ⟨z54, e55, hm⟩ := bd_some hm
    refine ki hw hA (rV hx hb hml hts hown hK hw (c_X5_undo l hv1 e55) hv1 (by decide) rfl (mkV 0 hts k_ml_RL_123 k_im_yX5_undo k_se_yX5_undo k_in_RX5 k_co_yX5_undo hd_X5_undo ⟨Nat.le_of_ble_eq_true rfl, Nat.le_of_ble_eq_true rfl⟩) rfl hl.1 rfl (Nat.le_of_ble_eq_true rfl) dL_law_623 ⟨show cells + 0 ≤ 600130 by omega, show slots + 0 ≤ 7301080 by omega⟩) (fun H locs hw => ?_)
    refine lv_iload hx hb dL_law_626 (lv_at hl 1 rfl) ?_
    refine lv_iconst (v := 1) hx hb dL_law_628 (by decide) ?_
    refine lv_isub hx hb dL_law_629 ?_
    refine lv_icmp_ne (tgt := 646) hx hb dL_law_630 (by decide) (fun hq56 => ?_) (fun hq56 => ?_)
    · have hm := (if_neg hq56).symm.trans hm
      refine lv_iconst (v := 0) hx hb dL_law_646 (by decide) ?_
      exact absurd (Option.some.inj hm) (by decide)
    · have hm := (if_pos hq56).symm.trans hm
      refine lv_aload_n hx hb dL_law_633 rfl (lv_at hl 3 rfl) ?_
      refine lv_iload_n hx hb dL_law_634 rfl (lv_at hl 4 rfl) ?_
      refine lv_iload hx hb dL_law_635 (lv_at hl 0 rfl) ?_
      obtain ⟨z57, e58, hm⟩ := bd_some hm
      refine kl hw hA (rS hx hb hml hts hown hK hw (c_L_tale l hv1 e58) (mkS 3 hts k_ml_RL_88 k_st_yL_tale k_in_RL k_co_yL_tale hd_L_tale ⟨Nat.le_of_ble_eq_true rfl, Nat.le_of_ble_eq_true rfl⟩) rfl hl.1 rfl (Nat.le_of_ble_eq_true rfl) dL_law_637 ⟨show cells + 0 ≤ 600130 by omega, show slots + 0 ≤ 7301080 by omega⟩) (fun H locs hw => ?_)
      refine lv_lload hx hb dL_law_640 (lv_at hl 11 rfl) ?_
      refine lv_lcmp hx hb dL_law_642 (fun v hv => ?_)
      refine lv_if_eq (tgt := 648) hx hb dL_law_643 (by decide) (fun h0 => ?_) (fun h0 => ?_)
      · have hm := (if_pos (hv.mp h0)).symm.trans hm
        refine lv_iinc (v := (u0 + (-1))) (lv' := [(7, .int (u0 + (-1))), (6, .int v16), (0, .ref b), (1, .ref (A1 v1)), (2, .int v2), (3, .ref (A1 v3)), (4, .ref (A1 v4)), (5, .ref (A1 v5)), (8, .int v8), (9, .int v9), (10, .int v10), (13, .long v13), (16, .int v16), (17, .int v17)]) hx hb dL_law_648 hl (k := 1) rfl rfl (by decide) rfl (fun ls hl => ?_)
        refine lv_iconst (v := 0) hx hb dL_law_651 (by decide) ?_
        refine lv_istore (lv' := [(19, .int 0), (7, .int (u0 + (-1))), (6, .int v16), (0, .ref b), (1, .ref (A1 v1)), (2, .int v2), (3, .ref (A1 v3)), (4, .ref (A1 v4)), (5, .ref (A1 v5)), (8, .int v8), (9, .int v9), (10, .int v10), (13, .long v13), (16, .int v16), (17, .int v17)]) hx hb dL_law_652 hl (by decide) rfl (fun ls hl => ?_)
        exact LJ_654 C0 B k77 jk77 fuel v1 v2 v3 v4 v5 v16 (u0 + (-1)) v8 0 G1 z54.2 hv1 hv3 hv4 hv5 h7 A1 hm cells slots ⟨by omega, by omega⟩ H locs hw ls (lv_sub hl [3, 4, 5, 6, 7, 8, 2, 1, 9, 0] rfl)
      · have hm := (if_neg (fun h => h0 (hv.mpr h))).symm.trans hm
        refine lv_iconst (v := 0) hx hb dL_law_646 (by decide) ?_
        exact absurd (Option.some.inj hm) (by decide)
set_option maxHeartbeats 4000000 in
set_option maxRecDepth 100000 in
theorem LJ_585 (C0 : LC p l s m meth c b L xs D cy) : ∀ (B : Nat) (k77 : Nat → Int32 → Nat → Nat → Nat → Int32 → Int32 → Int32 → (Nat → Bool) → Mem → Option Int32) (jk77 : ∀ (v1 : Nat) (v2 : Int32) (v3 : Nat) (v4 : Nat) (v5 : Nat) (v6 : Int32) (v7 : Int32) (v8 : Int32) (G1 : Nat → Bool) (M : Mem) (hv1 : TT G1 4 v1) (hv3 : TR G1 4 v3) (hv4 : TR G1 4 v4) (hv5 : TR G1 8 v5) (h7 : G1 7 = true) (A1 : Nat → Nat), k77 v1 v2 v3 v4 v5 v6 v7 v8 G1 M = some 1 → ∀ (cells slots : Nat), cells + 50 * (B) ≤ 600130 ∧ slots + 3520 * (B) ≤ 7301080 → ∀ (H : Heap) (locs : List Loc), WD D cy (LAs s) A1 s.heap G1 M H locs → ∀ ls : Array Slot, lv_has ls 21 [(0, .ref b), (1, .ref (A1 v1)), (2, .int v2), (3, .ref (A1 v3)), (4, .ref (A1 v4)), (5, .ref (A1 v5)), (6, .int v6), (7, .int v7), (8, .int v8)] → WL p l e s m below meth c b H locs cells slots (F0 m 77 ls [])) (v1 : Nat) (v2 : Int32) (v3 : Nat) (v4 : Nat) (v5 : Nat) (v6 : Int32) (v7 : Int32) (v8 : Int32) (v9 : Int32) (v10 : Int32) (v13 : Int64) (v16 : Int32) (v17 : Int32) (G1 : Nat → Bool) (M : Mem) (hv1 : TT G1 4 v1) (hv3 : TR G1 4 v3) (hv4 : TR G1 4 v4) (hv5 : TR G1 8 v5) (h7 : G1 7 = true) (A1 : Nat → Nat), m_L_law_b585 L xs k77 v1 v2 v3 v4 v5 v6 v7 v8 v9 v10 v13 v16 v17 G1 M = some 1 → ∀ (cells slots : Nat), cells + 50 * (B) ≤ 600130 ∧ slots + 3520 * (B) ≤ 7301080 → ∀ (H : Heap) (locs : List Loc), WD D cy (LAs s) A1 s.heap G1 M H locs → ∀ ls : Array Slot, lv_has ls 21 [(0, .ref b), (1, .ref (A1 v1)), (2, .int v2), (3, .ref (A1 v3)), (4, .ref (A1 v4)), (5, .ref (A1 v5)), (6, .int v6), (7, .int v7), (8, .int v8), (9, .int v9), (10, .int v10), (13, .long v13), (16, .int v16), (17, .int v17)] → WL p l e s m below meth c b H locs cells slots (F0 m 585 ls []) := by
  obtain ⟨hx, hb, hr, hlocks, hml, hown, hts, hK, hX, hbl, hL⟩ := id C0
  have hA : ∀ q : Nat, s.heap.size ≤ q → LAs s q := fun _ h => h
  intro B k77 jk77 v1 v2 v3 v4 v5 v6 v7 v8 v9 v10 v13 v16 v17 G1 M hv1 hv3 hv4 hv5 h7 A1 hm cells slots hcs H locs hw ls hl
  unfold m_L_law_b585 at hm
  refine lv_iload hx hb dL_law_585 (lv_at hl 7 rfl) ?_
  refine lv_iconst (v := 4) hx hb dL_law_587 (by decide) ?_
  refine lv_icmp_ge (tgt := 598) hx hb dL_law_588 (by decide) (fun hq31 => ?_) (fun hq31 => ?_)
  · have hm := (if_pos hq31).symm.trans hm
    refine lv_iconst (v := 4) hx hb dL_law_598 (by decide) ?_
    exact LJ_599 C0 B k77 jk77 v1 v2 v3 v4 v5 v6 v8 v9 v10 v13 v16 v17 4 G1 M hv1 hv3 hv4 hv5 h7 A1 hm cells slots ⟨by omega, by omega⟩ H locs hw ls (lv_sub hl [0, 1, 2, 3, 4, 5, 6, 8, 9, 10, 11, 12, 13] rfl)
  · have hm := (if_neg hq31).symm.trans hm
    refine lv_iload hx hb dL_law_591 (lv_at hl 7 rfl) ?_
    refine lv_iconst (v := 1) hx hb dL_law_593 (by decide) ?_
    refine lv_iadd hx hb dL_law_594 ?_
    refine lv_goto (tgt := 599) hx hb dL_law_595 (by decide) ?_
    exact LJ_599 C0 B k77 jk77 v1 v2 v3 v4 v5 v6 v8 v9 v10 v13 v16 v17 (v7 + 1) G1 M hv1 hv3 hv4 hv5 h7 A1 hm cells slots ⟨by omega, by omega⟩ H locs hw ls (lv_sub hl [0, 1, 2, 3, 4, 5, 6, 8, 9, 10, 11, 12, 13] rfl)
set_option maxHeartbeats 4000000 in
set_option maxRecDepth 100000 in
theorem LJ_527 (C0 : LC p l s m meth c b L xs D cy) : ∀ (B : Nat) (k77 : Nat → Int32 → Nat → Nat → Nat → Int32 → Int32 → Int32 → (Nat → Bool) → Mem → Option Int32) (jk77 : ∀ (v1 : Nat) (v2 : Int32) (v3 : Nat) (v4 : Nat) (v5 : Nat) (v6 : Int32) (v7 : Int32) (v8 : Int32) (G1 : Nat → Bool) (M : Mem) (hv1 : TT G1 4 v1) (hv3 : TR G1 4 v3) (hv4 : TR G1 4 v4) (hv5 : TR G1 8 v5) (h7 : G1 7 = true) (A1 : Nat → Nat), k77 v1 v2 v3 v4 v5 v6 v7 v8 G1 M = some 1 → ∀ (cells slots : Nat), cells + 50 * (B) ≤ 600130 ∧ slots + 3520 * (B) ≤ 7301080 → ∀ (H : Heap) (locs : List Loc), WD D cy (LAs s) A1 s.heap G1 M H locs → ∀ ls : Array Slot, lv_has ls 21 [(0, .ref b), (1, .ref (A1 v1)), (2, .int v2), (3, .ref (A1 v3)), (4, .ref (A1 v4)), (5, .ref (A1 v5)), (6, .int v6), (7, .int v7), (8, .int v8)] → WL p l e s m below meth c b H locs cells slots (F0 m 77 ls [])) (v1 : Nat) (v2 : Int32) (v3 : Nat) (v4 : Nat) (v5 : Nat) (v6 : Int32) (v7 : Int32) (v8 : Int32) (v9 : Int32) (v10 : Int32) (v12 : Int32) (v13 : Int64) (v15 : Int32) (v16 : Int32) (v17 : Int32) (G1 : Nat → Bool) (M : Mem) (hv1 : TT G1 4 v1) (hv3 : TR G1 4 v3) (hv4 : TR G1 4 v4) (hv5 : TR G1 8 v5) (h7 : G1 7 = true) (A1 : Nat → Nat), m_L_law_b527 L xs k77 v1 v2 v3 v4 v5 v6 v7 v8 v9 v10 v12 v13 v15 v16 v17 G1 M = some 1 → ∀ (cells slots : Nat), cells + 50 * (B + 1) ≤ 600130 ∧ slots + 3520 * (B + 1) ≤ 7301080 → ∀ (H : Heap) (locs : List Loc), WD D cy (LAs s) A1 s.heap G1 M H locs → ∀ ls : Array Slot, lv_has ls 21 [(0, .ref b), (1, .ref (A1 v1)), (2, .int v2), (3, .ref (A1 v3)), (4, .ref (A1 v4)), (5, .ref (A1 v5)), (6, .int v6), (7, .int v7), (8, .int v8), (9, .int v9), (10, .int v10), (12, .int v12), (13, .long v13), (15, .int v15), (16, .int v16), (17, .int v17)] → WL p l e s m below meth c b H locs cells slots (F0 m 527 ls []) := by
  obtain ⟨hx, hb, hr, hlocks, hml, hown, hts, hK, hX, hbl, hL⟩ := id C0
  have hA : ∀ q : Nat, s.heap.size ≤ q → LAs s q := fun _ h => h
  intro B k77 jk77 v1 v2 v3 v4 v5 v6 v7 v8 v9 v10 v12 v13 v15 v16 v17 G1 M hv1 hv3 hv4 hv5 h7 A1 hm cells slots hcs H locs hw ls hl
  unfold m_L_law_b527 at hm
  refine lv_iload hx hb dL_law_527 (lv_at hl 13 rfl) ?_
  refine lv_bipush (v := 10) hx hb dL_law_529 (by decide) ?_
  refine lv_icmp_le (tgt := 580) hx hb dL_law_531 (by decide) (fun hq26 => ?_) (fun hq26 => ?_)
  · have hm := (if_pos hq26).symm.trans hm
    refine lv_aload_n hx hb dL_law_580 rfl (lv_at hl 1 rfl) ?_
    obtain ⟨z27, e28, hm⟩ := bd_some hm
    refine kiG hw hA (rV hx hb hml hts hown hK hw (c_X5_deliverAll l hv1 e28) hv1 (by decide) rfl (mkV 0 hts k_ml_RL_120 k_im_yX5_deliverAll k_se_yX5_deliverAll k_in_RX5 k_co_yX5_deliverAll hd_X5_deliverAll ⟨Nat.le_of_ble_eq_true rfl, Nat.le_of_ble_eq_true rfl⟩) rfl hl.1 rfl (Nat.le_of_ble_eq_true rfl) dL_law_581 ⟨show cells + 50 ≤ 600130 by omega, show slots + 3520 ≤ 7301080 by omega⟩) (fun A29 hAA30 H locs hw => ?_)
    have hl : lv_has ls 21 [(0, .ref b), (1, .ref (A29 v1)), (2, .int v2), (3, .ref (A29 v3)), (4, .ref (A29 v4)), (5, .ref (A29 v5)), (6, .int v6), (7, .int v7), (8, .int v8), (9, .int v9), (10, .int v10), (12, .int v12), (13, .long v13), (15, .int v15), (16, .int v16), (17, .int v17)] := by
      simp only [(hAA30 _ hv1.2).1, (hAA30 _ hv3.2.2).1, (hAA30 _ hv4.2.2).1, (hAA30 _ hv5.2.2).1]
      exact hl
    have hv1 := TT.mono hv1 (fun c hc => (hAA30 c hc).2)
    have hv3 := TR.mono hv3 (fun c hc => (hAA30 c hc).2)
    have hv4 := TR.mono hv4 (fun c hc => (hAA30 c hc).2)
    have hv5 := TR.mono hv5 (fun c hc => (hAA30 c hc).2)
    have h7 := la_7 (hAA30 _ (la_in h7 (show 3 < 6 by decide))).2
    refine lv_pop hx hb dL_law_584 rfl ?_
    exact LJ_585 C0 B k77 jk77 v1 v2 v3 v4 v5 v6 v7 v8 v9 v10 v13 v16 v17 z27.2.1 z27.2.2 hv1 hv3 hv4 hv5 h7 A29 hm (cells + 50) (slots + 3520) ⟨by omega, by omega⟩ H locs hw ls (lv_sub hl [0, 1, 2, 3, 4, 5, 6, 7, 8, 9, 10, 12, 14, 15] rfl)
  · have hm := (if_neg hq26).symm.trans hm
    refine lv_iload hx hb dL_law_534 (lv_at hl 6 rfl) ?_
    refine lv_if_le (tgt := 580) hx hb dL_law_536 (by decide) (fun hq59 => ?_) (fun hq59 => ?_)
    · have hm := (if_pos hq59).symm.trans hm
      refine lv_aload_n hx hb dL_law_580 rfl (lv_at hl 1 rfl) ?_
      obtain ⟨z60, e61, hm⟩ := bd_some hm
      refine kiG hw hA (rV hx hb hml hts hown hK hw (c_X5_deliverAll l hv1 e61) hv1 (by decide) rfl (mkV 0 hts k_ml_RL_120 k_im_yX5_deliverAll k_se_yX5_deliverAll k_in_RX5 k_co_yX5_deliverAll hd_X5_deliverAll ⟨Nat.le_of_ble_eq_true rfl, Nat.le_of_ble_eq_true rfl⟩) rfl hl.1 rfl (Nat.le_of_ble_eq_true rfl) dL_law_581 ⟨show cells + 50 ≤ 600130 by omega, show slots + 3520 ≤ 7301080 by omega⟩) (fun A62 hAA63 H locs hw => ?_)
      have hl : lv_has ls 21 [(0, .ref b), (1, .ref (A62 v1)), (2, .int v2), (3, .ref (A62 v3)), (4, .ref (A62 v4)), (5, .ref (A62 v5)), (6, .int v6), (7, .int v7), (8, .int v8), (9, .int v9), (10, .int v10), (12, .int v12), (13, .long v13), (15, .int v15), (16, .int v16), (17, .int v17)] := by
        simp only [(hAA63 _ hv1.2).1, (hAA63 _ hv3.2.2).1, (hAA63 _ hv4.2.2).1, (hAA63 _ hv5.2.2).1]
        exact hl
      have hv1 := TT.mono hv1 (fun c hc => (hAA63 c hc).2)
      have hv3 := TR.mono hv3 (fun c hc => (hAA63 c hc).2)
      have hv4 := TR.mono hv4 (fun c hc => (hAA63 c hc).2)
      have hv5 := TR.mono hv5 (fun c hc => (hAA63 c hc).2)
      have h7 := la_7 (hAA63 _ (la_in h7 (show 3 < 6 by decide))).2
      refine lv_pop hx hb dL_law_584 rfl ?_
      exact LJ_585 C0 B k77 jk77 v1 v2 v3 v4 v5 v6 v7 v8 v9 v10 v13 v16 v17 z60.2.1 z60.2.2 hv1 hv3 hv4 hv5 h7 A62 hm (cells + 50) (slots + 3520) ⟨by omega, by omega⟩ H locs hw ls (lv_sub hl [0, 1, 2, 3, 4, 5, 6, 7, 8, 9, 10, 12, 14, 15] rfl)
    · have hm := (if_neg hq59).symm.trans hm
      refine lv_aload_n hx hb dL_law_539 rfl (lv_at hl 1 rfl) ?_
      refine lv_iload hx hb dL_law_540 (lv_at hl 11 rfl) ?_
      obtain ⟨z64, e65, hm⟩ := bd_some hm
      refine ki hw hA (rV hx hb hml hts hown hK hw (c_X5_state l hv1 e65) hv1 (by decide) rfl (mkV 1 hts k_ml_RL_42 k_im_yX5_state k_se_yX5_state k_in_RX5 k_co_yX5_state hd_X5_state ⟨Nat.le_of_ble_eq_true rfl, Nat.le_of_ble_eq_true rfl⟩) rfl hl.1 rfl (Nat.le_of_ble_eq_true rfl) dL_law_542 ⟨show cells + 0 ≤ 600130 by omega, show slots + 0 ≤ 7301080 by omega⟩) (fun H locs hw => ?_)
      refine lv_if_ne (tgt := 580) hx hb dL_law_545 (by decide) (fun hq66 => ?_) (fun hq66 => ?_)
      · have hm := (if_neg hq66).symm.trans hm
        refine lv_aload_n hx hb dL_law_580 rfl (lv_at hl 1 rfl) ?_
        obtain ⟨z67, e68, hm⟩ := bd_some hm
        refine kiG hw hA (rV hx hb hml hts hown hK hw (c_X5_deliverAll l hv1 e68) hv1 (by decide) rfl (mkV 0 hts k_ml_RL_120 k_im_yX5_deliverAll k_se_yX5_deliverAll k_in_RX5 k_co_yX5_deliverAll hd_X5_deliverAll ⟨Nat.le_of_ble_eq_true rfl, Nat.le_of_ble_eq_true rfl⟩) rfl hl.1 rfl (Nat.le_of_ble_eq_true rfl) dL_law_581 ⟨show cells + 50 ≤ 600130 by omega, show slots + 3520 ≤ 7301080 by omega⟩) (fun A69 hAA70 H locs hw => ?_)
        have hl : lv_has ls 21 [(0, .ref b), (1, .ref (A69 v1)), (2, .int v2), (3, .ref (A69 v3)), (4, .ref (A69 v4)), (5, .ref (A69 v5)), (6, .int v6), (7, .int v7), (8, .int v8), (9, .int v9), (10, .int v10), (12, .int v12), (13, .long v13), (15, .int v15), (16, .int v16), (17, .int v17)] := by
          simp only [(hAA70 _ hv1.2).1, (hAA70 _ hv3.2.2).1, (hAA70 _ hv4.2.2).1, (hAA70 _ hv5.2.2).1]
          exact hl
        have hv1 := TT.mono hv1 (fun c hc => (hAA70 c hc).2)
        have hv3 := TR.mono hv3 (fun c hc => (hAA70 c hc).2)
        have hv4 := TR.mono hv4 (fun c hc => (hAA70 c hc).2)
        have hv5 := TR.mono hv5 (fun c hc => (hAA70 c hc).2)
        have h7 := la_7 (hAA70 _ (la_in h7 (show 3 < 6 by decide))).2
        refine lv_pop hx hb dL_law_584 rfl ?_
        exact LJ_585 C0 B k77 jk77 v1 v2 v3 v4 v5 v6 v7 v8 v9 v10 v13 v16 v17 z67.2.1 z67.2.2 hv1 hv3 hv4 hv5 h7 A69 hm (cells + 50) (slots + 3520) ⟨by omega, by omega⟩ H locs hw ls (lv_sub hl [0, 1, 2, 3, 4, 5, 6, 7, 8, 9, 10, 12, 14, 15] rfl)
      · have hm := (if_pos hq66).symm.trans hm
        refine lv_aload_n hx hb dL_law_548 rfl (lv_at hl 1 rfl) ?_
        refine lv_iload hx hb dL_law_549 (lv_at hl 11 rfl) ?_
        obtain ⟨z71, e72, hm⟩ := bd_some hm
        refine ki hw hA (rV hx hb hml hts hown hK hw (c_X5_appended l hv1 e72) hv1 (by decide) rfl (mkV 1 hts k_ml_RL_52 k_im_yX5_appended k_se_yX5_appended k_in_RX5 k_co_yX5_appended hd_X5_appended ⟨Nat.le_of_ble_eq_true rfl, Nat.le_of_ble_eq_true rfl⟩) rfl hl.1 rfl (Nat.le_of_ble_eq_true rfl) dL_law_551 ⟨show cells + 0 ≤ 600130 by omega, show slots + 0 ≤ 7301080 by omega⟩) (fun H locs hw => ?_)
        refine lv_bipush (v := 40) hx hb dL_law_554 (by decide) ?_
        refine lv_icmp_ge (tgt := 580) hx hb dL_law_556 (by decide) (fun hq73 => ?_) (fun hq73 => ?_)
        · have hm := (if_pos hq73).symm.trans hm
          refine lv_aload_n hx hb dL_law_580 rfl (lv_at hl 1 rfl) ?_
          obtain ⟨z74, e75, hm⟩ := bd_some hm
          refine kiG hw hA (rV hx hb hml hts hown hK hw (c_X5_deliverAll l hv1 e75) hv1 (by decide) rfl (mkV 0 hts k_ml_RL_120 k_im_yX5_deliverAll k_se_yX5_deliverAll k_in_RX5 k_co_yX5_deliverAll hd_X5_deliverAll ⟨Nat.le_of_ble_eq_true rfl, Nat.le_of_ble_eq_true rfl⟩) rfl hl.1 rfl (Nat.le_of_ble_eq_true rfl) dL_law_581 ⟨show cells + 50 ≤ 600130 by omega, show slots + 3520 ≤ 7301080 by omega⟩) (fun A76 hAA77 H locs hw => ?_)
          have hl : lv_has ls 21 [(0, .ref b), (1, .ref (A76 v1)), (2, .int v2), (3, .ref (A76 v3)), (4, .ref (A76 v4)), (5, .ref (A76 v5)), (6, .int v6), (7, .int v7), (8, .int v8), (9, .int v9), (10, .int v10), (12, .int v12), (13, .long v13), (15, .int v15), (16, .int v16), (17, .int v17)] := by
            simp only [(hAA77 _ hv1.2).1, (hAA77 _ hv3.2.2).1, (hAA77 _ hv4.2.2).1, (hAA77 _ hv5.2.2).1]
            exact hl
          have hv1 := TT.mono hv1 (fun c hc => (hAA77 c hc).2)
          have hv3 := TR.mono hv3 (fun c hc => (hAA77 c hc).2)
          have hv4 := TR.mono hv4 (fun c hc => (hAA77 c hc).2)
          have hv5 := TR.mono hv5 (fun c hc => (hAA77 c hc).2)
          have h7 := la_7 (hAA77 _ (la_in h7 (show 3 < 6 by decide))).2
          refine lv_pop hx hb dL_law_584 rfl ?_
          exact LJ_585 C0 B k77 jk77 v1 v2 v3 v4 v5 v6 v7 v8 v9 v10 v13 v16 v17 z74.2.1 z74.2.2 hv1 hv3 hv4 hv5 h7 A76 hm (cells + 50) (slots + 3520) ⟨by omega, by omega⟩ H locs hw ls (lv_sub hl [0, 1, 2, 3, 4, 5, 6, 7, 8, 9, 10, 12, 14, 15] rfl)
        · have hm := (if_neg hq73).symm.trans hm
          refine lv_aload_n hx hb dL_law_559 rfl (lv_at hl 1 rfl) ?_
          refine lv_iload hx hb dL_law_560 (lv_at hl 11 rfl) ?_
          refine lv_iload hx hb dL_law_562 (lv_at hl 9 rfl) ?_
          refine lv_bipush (v := 10) hx hb dL_law_564 (by decide) ?_
          refine lv_ishr hx hb dL_law_566 ?_
          refine lv_sipush (v := 1000) hx hb dL_law_567 (by decide) ?_
          obtain ⟨z78, e79, hm⟩ := bd_some hm
          refine ki hw hA (rS hx hb hml hts hown hK hw (c_L_low l e79) (mkS 2 hts k_ml_RL_82 k_st_yL_low k_in_RL k_co_yL_low hd_L_low ⟨Nat.le_of_ble_eq_true rfl, Nat.le_of_ble_eq_true rfl⟩) rfl hl.1 rfl (Nat.le_of_ble_eq_true rfl) dL_law_570 ⟨show cells + 0 ≤ 600130 by omega, show slots + 0 ≤ 7301080 by omega⟩) (fun H locs hw => ?_)
          obtain ⟨z80, e81, hm⟩ := bd_some hm
          refine kiG hw hA (rV hx hb hml hts hown hK hw (c_X5_append l hv1 e81) hv1 (by decide) rfl (mkV 2 hts k_ml_RL_117 k_im_yX5_append k_se_yX5_append k_in_RX5 k_co_yX5_append hd_X5_append ⟨Nat.le_of_ble_eq_true rfl, Nat.le_of_ble_eq_true rfl⟩) rfl hl.1 rfl (Nat.le_of_ble_eq_true rfl) dL_law_573 ⟨show cells + 50 ≤ 600130 by omega, show slots + 3520 ≤ 7301080 by omega⟩) (fun A82 hAA83 H locs hw => ?_)
          have hl : lv_has ls 21 [(0, .ref b), (1, .ref (A82 v1)), (2, .int v2), (3, .ref (A82 v3)), (4, .ref (A82 v4)), (5, .ref (A82 v5)), (6, .int v6), (7, .int v7), (8, .int v8), (9, .int v9), (10, .int v10), (12, .int v12), (13, .long v13), (15, .int v15), (16, .int v16), (17, .int v17)] := by
            simp only [(hAA83 _ hv1.2).1, (hAA83 _ hv3.2.2).1, (hAA83 _ hv4.2.2).1, (hAA83 _ hv5.2.2).1]
            exact hl
          have hv1 := TT.mono hv1 (fun c hc => (hAA83 c hc).2)
          have hv3 := TR.mono hv3 (fun c hc => (hAA83 c hc).2)
          have hv4 := TR.mono hv4 (fun c hc => (hAA83 c hc).2)
          have hv5 := TR.mono hv5 (fun c hc => (hAA83 c hc).2)
          have h7 := la_7 (hAA83 _ (la_in h7 (show 3 < 6 by decide))).2
          refine lv_pop hx hb dL_law_576 rfl ?_
          refine lv_goto (tgt := 585) hx hb dL_law_577 (by decide) ?_
          exact LJ_585 C0 B k77 jk77 v1 v2 v3 v4 v5 v6 v7 v8 v9 v10 v13 v16 v17 z80.2.1 z80.2.2 hv1 hv3 hv4 hv5 h7 A82 hm (cells + 50) (slots + 3520) ⟨by omega, by omega⟩ H locs hw ls (lv_sub hl [0, 1, 2, 3, 4, 5, 6, 7, 8, 9, 10, 12, 14, 15] rfl)
set_option maxHeartbeats 4000000 in
set_option maxRecDepth 100000 in
theorem LJ_495 (C0 : LC p l s m meth c b L xs D cy) : ∀ (B : Nat) (k77 : Nat → Int32 → Nat → Nat → Nat → Int32 → Int32 → Int32 → (Nat → Bool) → Mem → Option Int32) (jk77 : ∀ (v1 : Nat) (v2 : Int32) (v3 : Nat) (v4 : Nat) (v5 : Nat) (v6 : Int32) (v7 : Int32) (v8 : Int32) (G1 : Nat → Bool) (M : Mem) (hv1 : TT G1 4 v1) (hv3 : TR G1 4 v3) (hv4 : TR G1 4 v4) (hv5 : TR G1 8 v5) (h7 : G1 7 = true) (A1 : Nat → Nat), k77 v1 v2 v3 v4 v5 v6 v7 v8 G1 M = some 1 → ∀ (cells slots : Nat), cells + 50 * (B) ≤ 600130 ∧ slots + 3520 * (B) ≤ 7301080 → ∀ (H : Heap) (locs : List Loc), WD D cy (LAs s) A1 s.heap G1 M H locs → ∀ ls : Array Slot, lv_has ls 21 [(0, .ref b), (1, .ref (A1 v1)), (2, .int v2), (3, .ref (A1 v3)), (4, .ref (A1 v4)), (5, .ref (A1 v5)), (6, .int v6), (7, .int v7), (8, .int v8)] → WL p l e s m below meth c b H locs cells slots (F0 m 77 ls [])) (v1 : Nat) (v2 : Int32) (v3 : Nat) (v4 : Nat) (v5 : Nat) (v6 : Int32) (v7 : Int32) (v8 : Int32) (v9 : Int32) (v10 : Int32) (v12 : Int32) (v13 : Int64) (v15 : Int32) (v16 : Int32) (v17 : Int32) (G1 : Nat → Bool) (M : Mem) (hv1 : TT G1 4 v1) (hv3 : TR G1 4 v3) (hv4 : TR G1 4 v4) (hv5 : TR G1 8 v5) (h7 : G1 7 = true) (A1 : Nat → Nat), m_L_law_b495 L xs k77 v1 v2 v3 v4 v5 v6 v7 v8 v9 v10 v12 v13 v15 v16 v17 G1 M = some 1 → ∀ (cells slots : Nat), cells + 50 * (B + 1) ≤ 600130 ∧ slots + 3520 * (B + 1) ≤ 7301080 → ∀ (H : Heap) (locs : List Loc), WD D cy (LAs s) A1 s.heap G1 M H locs → ∀ ls : Array Slot, lv_has ls 21 [(0, .ref b), (1, .ref (A1 v1)), (2, .int v2), (3, .ref (A1 v3)), (4, .ref (A1 v4)), (5, .ref (A1 v5)), (6, .int v6), (7, .int v7), (8, .int v8), (9, .int v9), (10, .int v10), (12, .int v12), (13, .long v13), (15, .int v15), (16, .int v16), (17, .int v17)] → WL p l e s m below meth c b H locs cells slots (F0 m 495 ls []) := by
  obtain ⟨hx, hb, hr, hlocks, hml, hown, hts, hK, hX, hbl, hL⟩ := id C0
  have hA : ∀ q : Nat, s.heap.size ≤ q → LAs s q := fun _ h => h
  intro B k77 jk77 v1 v2 v3 v4 v5 v6 v7 v8 v9 v10 v12 v13 v15 v16 v17 G1 M hv1 hv3 hv4 hv5 h7 A1 hm cells slots hcs H locs hw ls hl
  unfold m_L_law_b495 at hm
  refine lv_iload hx hb dL_law_495 (lv_at hl 13 rfl) ?_
  refine lv_bipush (v := 9) hx hb dL_law_497 (by decide) ?_
  refine lv_icmp_ne (tgt := 527) hx hb dL_law_499 (by decide) (fun hq25 => ?_) (fun hq25 => ?_)
  · have hm := (if_neg hq25).symm.trans hm
    exact LJ_527 C0 B k77 jk77 v1 v2 v3 v4 v5 v6 v7 v8 v9 v10 v12 v13 v15 v16 v17 G1 M hv1 hv3 hv4 hv5 h7 A1 hm cells slots ⟨by omega, by omega⟩ H locs hw ls hl
  · have hm := (if_pos hq25).symm.trans hm
    refine lv_iload hx hb dL_law_502 (lv_at hl 6 rfl) ?_
    refine lv_if_le (tgt := 527) hx hb dL_law_504 (by decide) (fun hq84 => ?_) (fun hq84 => ?_)
    · have hm := (if_pos hq84).symm.trans hm
      exact LJ_527 C0 B k77 jk77 v1 v2 v3 v4 v5 v6 v7 v8 v9 v10 v12 v13 v15 v16 v17 G1 M hv1 hv3 hv4 hv5 h7 A1 hm cells slots ⟨by omega, by omega⟩ H locs hw ls hl
    · have hm := (if_neg hq84).symm.trans hm
      refine lv_aload_n hx hb dL_law_507 rfl (lv_at hl 1 rfl) ?_
      refine lv_iload hx hb dL_law_508 (lv_at hl 11 rfl) ?_
      obtain ⟨z85, e86, hm⟩ := bd_some hm
      refine ki hw hA (rV hx hb hml hts hown hK hw (c_X5_state l hv1 e86) hv1 (by decide) rfl (mkV 1 hts k_ml_RL_42 k_im_yX5_state k_se_yX5_state k_in_RX5 k_co_yX5_state hd_X5_state ⟨Nat.le_of_ble_eq_true rfl, Nat.le_of_ble_eq_true rfl⟩) rfl hl.1 rfl (Nat.le_of_ble_eq_true rfl) dL_law_510 ⟨show cells + 0 ≤ 600130 by omega, show slots + 0 ≤ 7301080 by omega⟩) (fun H locs hw => ?_)
      refine lv_iconst (v := 2) hx hb dL_law_513 (by decide) ?_
      refine lv_icmp_ne (tgt := 527) hx hb dL_law_514 (by decide) (fun hq87 => ?_) (fun hq87 => ?_)
      · have hm := (if_neg hq87).symm.trans hm
        exact LJ_527 C0 B k77 jk77 v1 v2 v3 v4 v5 v6 v7 v8 v9 v10 v12 v13 v15 v16 v17 G1 M hv1 hv3 hv4 hv5 h7 A1 hm cells slots ⟨by omega, by omega⟩ H locs hw ls hl
      · have hm := (if_pos hq87).symm.trans hm
        refine lv_aload_n hx hb dL_law_517 rfl (lv_at hl 1 rfl) ?_
        refine lv_iload hx hb dL_law_518 (lv_at hl 11 rfl) ?_
        obtain ⟨z88, e89, hm⟩ := bd_some hm
        refine kiG hw hA (rV hx hb hml hts hown hK hw (c_X5_repair l hv1 e89) hv1 (by decide) rfl (mkV 1 hts k_ml_RL_114 k_im_yX5_repair k_se_yX5_repair k_in_RX5 k_co_yX5_repair hd_X5_repair ⟨Nat.le_of_ble_eq_true rfl, Nat.le_of_ble_eq_true rfl⟩) rfl hl.1 rfl (Nat.le_of_ble_eq_true rfl) dL_law_520 ⟨show cells + 50 ≤ 600130 by omega, show slots + 3520 ≤ 7301080 by omega⟩) (fun A90 hAA91 H locs hw => ?_)
        have hl : lv_has ls 21 [(0, .ref b), (1, .ref (A90 v1)), (2, .int v2), (3, .ref (A90 v3)), (4, .ref (A90 v4)), (5, .ref (A90 v5)), (6, .int v6), (7, .int v7), (8, .int v8), (9, .int v9), (10, .int v10), (12, .int v12), (13, .long v13), (15, .int v15), (16, .int v16), (17, .int v17)] := by
          simp only [(hAA91 _ hv1.2).1, (hAA91 _ hv3.2.2).1, (hAA91 _ hv4.2.2).1, (hAA91 _ hv5.2.2).1]
          exact hl
        have hv1 := TT.mono hv1 (fun c hc => (hAA91 c hc).2)
        have hv3 := TR.mono hv3 (fun c hc => (hAA91 c hc).2)
        have hv4 := TR.mono hv4 (fun c hc => (hAA91 c hc).2)
        have hv5 := TR.mono hv5 (fun c hc => (hAA91 c hc).2)
        have h7 := la_7 (hAA91 _ (la_in h7 (show 3 < 6 by decide))).2
        refine lv_pop hx hb dL_law_523 rfl ?_
        refine lv_goto (tgt := 585) hx hb dL_law_524 (by decide) ?_
        exact LJ_585 C0 B k77 jk77 v1 v2 v3 v4 v5 v6 v7 v8 v9 v10 v13 v16 v17 z88.2.1 z88.2.2 hv1 hv3 hv4 hv5 h7 A90 hm (cells + 50) (slots + 3520) ⟨by omega, by omega⟩ H locs hw ls (lv_sub hl [0, 1, 2, 3, 4, 5, 6, 7, 8, 9, 10, 12, 14, 15] rfl)
set_option maxHeartbeats 4000000 in
set_option maxRecDepth 100000 in
theorem LJ_453 (C0 : LC p l s m meth c b L xs D cy) : ∀ (B : Nat) (k77 : Nat → Int32 → Nat → Nat → Nat → Int32 → Int32 → Int32 → (Nat → Bool) → Mem → Option Int32) (jk77 : ∀ (v1 : Nat) (v2 : Int32) (v3 : Nat) (v4 : Nat) (v5 : Nat) (v6 : Int32) (v7 : Int32) (v8 : Int32) (G1 : Nat → Bool) (M : Mem) (hv1 : TT G1 4 v1) (hv3 : TR G1 4 v3) (hv4 : TR G1 4 v4) (hv5 : TR G1 8 v5) (h7 : G1 7 = true) (A1 : Nat → Nat), k77 v1 v2 v3 v4 v5 v6 v7 v8 G1 M = some 1 → ∀ (cells slots : Nat), cells + 50 * (B) ≤ 600130 ∧ slots + 3520 * (B) ≤ 7301080 → ∀ (H : Heap) (locs : List Loc), WD D cy (LAs s) A1 s.heap G1 M H locs → ∀ ls : Array Slot, lv_has ls 21 [(0, .ref b), (1, .ref (A1 v1)), (2, .int v2), (3, .ref (A1 v3)), (4, .ref (A1 v4)), (5, .ref (A1 v5)), (6, .int v6), (7, .int v7), (8, .int v8)] → WL p l e s m below meth c b H locs cells slots (F0 m 77 ls [])) (v1 : Nat) (v2 : Int32) (v3 : Nat) (v4 : Nat) (v5 : Nat) (v6 : Int32) (v7 : Int32) (v8 : Int32) (v9 : Int32) (v10 : Int32) (v12 : Int32) (v13 : Int64) (v15 : Int32) (v16 : Int32) (v17 : Int32) (G1 : Nat → Bool) (M : Mem) (hv1 : TT G1 4 v1) (hv3 : TR G1 4 v3) (hv4 : TR G1 4 v4) (hv5 : TR G1 8 v5) (h7 : G1 7 = true) (A1 : Nat → Nat), m_L_law_b453 L xs k77 v1 v2 v3 v4 v5 v6 v7 v8 v9 v10 v12 v13 v15 v16 v17 G1 M = some 1 → ∀ (cells slots : Nat), cells + 50 * (B + 1) ≤ 600130 ∧ slots + 3520 * (B + 1) ≤ 7301080 → ∀ (H : Heap) (locs : List Loc), WD D cy (LAs s) A1 s.heap G1 M H locs → ∀ ls : Array Slot, lv_has ls 21 [(0, .ref b), (1, .ref (A1 v1)), (2, .int v2), (3, .ref (A1 v3)), (4, .ref (A1 v4)), (5, .ref (A1 v5)), (6, .int v6), (7, .int v7), (8, .int v8), (9, .int v9), (10, .int v10), (12, .int v12), (13, .long v13), (15, .int v15), (16, .int v16), (17, .int v17)] → WL p l e s m below meth c b H locs cells slots (F0 m 453 ls []) := by
  obtain ⟨hx, hb, hr, hlocks, hml, hown, hts, hK, hX, hbl, hL⟩ := id C0
  have hA : ∀ q : Nat, s.heap.size ≤ q → LAs s q := fun _ h => h
  intro B k77 jk77 v1 v2 v3 v4 v5 v6 v7 v8 v9 v10 v12 v13 v15 v16 v17 G1 M hv1 hv3 hv4 hv5 h7 A1 hm cells slots hcs H locs hw ls hl
  unfold m_L_law_b453 at hm
  refine lv_iload hx hb dL_law_453 (lv_at hl 13 rfl) ?_
  refine lv_bipush (v := 8) hx hb dL_law_455 (by decide) ?_
  refine lv_icmp_ne (tgt := 495) hx hb dL_law_457 (by decide) (fun hq24 => ?_) (fun hq24 => ?_)
  · have hm := (if_neg hq24).symm.trans hm
    exact LJ_495 C0 B k77 jk77 v1 v2 v3 v4 v5 v6 v7 v8 v9 v10 v12 v13 v15 v16 v17 G1 M hv1 hv3 hv4 hv5 h7 A1 hm cells slots ⟨by omega, by omega⟩ H locs hw ls hl
  · have hm := (if_pos hq24).symm.trans hm
    refine lv_iload hx hb dL_law_460 (lv_at hl 6 rfl) ?_
    refine lv_if_le (tgt := 495) hx hb dL_law_462 (by decide) (fun hq92 => ?_) (fun hq92 => ?_)
    · have hm := (if_pos hq92).symm.trans hm
      exact LJ_495 C0 B k77 jk77 v1 v2 v3 v4 v5 v6 v7 v8 v9 v10 v12 v13 v15 v16 v17 G1 M hv1 hv3 hv4 hv5 h7 A1 hm cells slots ⟨by omega, by omega⟩ H locs hw ls hl
    · have hm := (if_neg hq92).symm.trans hm
      refine lv_iload hx hb dL_law_465 (lv_at hl 9 rfl) ?_
      refine lv_bipush (v := 10) hx hb dL_law_467 (by decide) ?_
      refine lv_ishr hx hb dL_law_469 ?_
      refine lv_iconst (v := 3) hx hb dL_law_470 (by decide) ?_
      refine lv_iand hx hb dL_law_471 ?_
      refine lv_if_ne (tgt := 495) hx hb dL_law_472 (by decide) (fun hq93 => ?_) (fun hq93 => ?_)
      · have hm := (if_neg hq93).symm.trans hm
        exact LJ_495 C0 B k77 jk77 v1 v2 v3 v4 v5 v6 v7 v8 v9 v10 v12 v13 v15 v16 v17 G1 M hv1 hv3 hv4 hv5 h7 A1 hm cells slots ⟨by omega, by omega⟩ H locs hw ls hl
      · have hm := (if_pos hq93).symm.trans hm
        refine lv_aload_n hx hb dL_law_475 rfl (lv_at hl 1 rfl) ?_
        refine lv_iload hx hb dL_law_476 (lv_at hl 11 rfl) ?_
        obtain ⟨z94, e95, hm⟩ := bd_some hm
        refine ki hw hA (rV hx hb hml hts hown hK hw (c_X5_state l hv1 e95) hv1 (by decide) rfl (mkV 1 hts k_ml_RL_42 k_im_yX5_state k_se_yX5_state k_in_RX5 k_co_yX5_state hd_X5_state ⟨Nat.le_of_ble_eq_true rfl, Nat.le_of_ble_eq_true rfl⟩) rfl hl.1 rfl (Nat.le_of_ble_eq_true rfl) dL_law_478 ⟨show cells + 0 ≤ 600130 by omega, show slots + 0 ≤ 7301080 by omega⟩) (fun H locs hw => ?_)
        refine lv_iconst (v := 2) hx hb dL_law_481 (by decide) ?_
        refine lv_icmp_eq (tgt := 495) hx hb dL_law_482 (by decide) (fun hq96 => ?_) (fun hq96 => ?_)
        · have hm := (if_pos hq96).symm.trans hm
          exact LJ_495 C0 B k77 jk77 v1 v2 v3 v4 v5 v6 v7 v8 v9 v10 v12 v13 v15 v16 v17 G1 M hv1 hv3 hv4 hv5 h7 A1 hm cells slots ⟨by omega, by omega⟩ H locs hw ls hl
        · have hm := (if_neg hq96).symm.trans hm
          refine lv_aload_n hx hb dL_law_485 rfl (lv_at hl 1 rfl) ?_
          refine lv_iload hx hb dL_law_486 (lv_at hl 11 rfl) ?_
          obtain ⟨z97, e98, hm⟩ := bd_some hm
          refine kiG hw hA (rV hx hb hml hts hown hK hw (c_X5_recover l hv1 e98) hv1 (by decide) rfl (mkV 1 hts k_ml_RL_111 k_im_yX5_recover k_se_yX5_recover k_in_RX5 k_co_yX5_recover hd_X5_recover ⟨Nat.le_of_ble_eq_true rfl, Nat.le_of_ble_eq_true rfl⟩) rfl hl.1 rfl (Nat.le_of_ble_eq_true rfl) dL_law_488 ⟨show cells + 50 ≤ 600130 by omega, show slots + 3520 ≤ 7301080 by omega⟩) (fun A99 hAA100 H locs hw => ?_)
          have hl : lv_has ls 21 [(0, .ref b), (1, .ref (A99 v1)), (2, .int v2), (3, .ref (A99 v3)), (4, .ref (A99 v4)), (5, .ref (A99 v5)), (6, .int v6), (7, .int v7), (8, .int v8), (9, .int v9), (10, .int v10), (12, .int v12), (13, .long v13), (15, .int v15), (16, .int v16), (17, .int v17)] := by
            simp only [(hAA100 _ hv1.2).1, (hAA100 _ hv3.2.2).1, (hAA100 _ hv4.2.2).1, (hAA100 _ hv5.2.2).1]
            exact hl
          have hv1 := TT.mono hv1 (fun c hc => (hAA100 c hc).2)
          have hv3 := TR.mono hv3 (fun c hc => (hAA100 c hc).2)
          have hv4 := TR.mono hv4 (fun c hc => (hAA100 c hc).2)
          have hv5 := TR.mono hv5 (fun c hc => (hAA100 c hc).2)
          have h7 := la_7 (hAA100 _ (la_in h7 (show 3 < 6 by decide))).2
          refine lv_pop hx hb dL_law_491 rfl ?_
          refine lv_goto (tgt := 585) hx hb dL_law_492 (by decide) ?_
          exact LJ_585 C0 B k77 jk77 v1 v2 v3 v4 v5 v6 v7 v8 v9 v10 v13 v16 v17 z97.2.1 z97.2.2 hv1 hv3 hv4 hv5 h7 A99 hm (cells + 50) (slots + 3520) ⟨by omega, by omega⟩ H locs hw ls (lv_sub hl [0, 1, 2, 3, 4, 5, 6, 7, 8, 9, 10, 12, 14, 15] rfl)
set_option maxHeartbeats 4000000 in
set_option maxRecDepth 100000 in
theorem LJ_394 (C0 : LC p l s m meth c b L xs D cy) : ∀ (B : Nat) (k77 : Nat → Int32 → Nat → Nat → Nat → Int32 → Int32 → Int32 → (Nat → Bool) → Mem → Option Int32) (jk77 : ∀ (v1 : Nat) (v2 : Int32) (v3 : Nat) (v4 : Nat) (v5 : Nat) (v6 : Int32) (v7 : Int32) (v8 : Int32) (G1 : Nat → Bool) (M : Mem) (hv1 : TT G1 4 v1) (hv3 : TR G1 4 v3) (hv4 : TR G1 4 v4) (hv5 : TR G1 8 v5) (h7 : G1 7 = true) (A1 : Nat → Nat), k77 v1 v2 v3 v4 v5 v6 v7 v8 G1 M = some 1 → ∀ (cells slots : Nat), cells + 50 * (B) ≤ 600130 ∧ slots + 3520 * (B) ≤ 7301080 → ∀ (H : Heap) (locs : List Loc), WD D cy (LAs s) A1 s.heap G1 M H locs → ∀ ls : Array Slot, lv_has ls 21 [(0, .ref b), (1, .ref (A1 v1)), (2, .int v2), (3, .ref (A1 v3)), (4, .ref (A1 v4)), (5, .ref (A1 v5)), (6, .int v6), (7, .int v7), (8, .int v8)] → WL p l e s m below meth c b H locs cells slots (F0 m 77 ls [])) (v1 : Nat) (v2 : Int32) (v3 : Nat) (v4 : Nat) (v5 : Nat) (v6 : Int32) (v7 : Int32) (v8 : Int32) (v9 : Int32) (v10 : Int32) (v12 : Int32) (v13 : Int64) (v15 : Int32) (v16 : Int32) (v17 : Int32) (G1 : Nat → Bool) (M : Mem) (hv1 : TT G1 4 v1) (hv3 : TR G1 4 v3) (hv4 : TR G1 4 v4) (hv5 : TR G1 8 v5) (h7 : G1 7 = true) (A1 : Nat → Nat), m_L_law_b394 L xs k77 v1 v2 v3 v4 v5 v6 v7 v8 v9 v10 v12 v13 v15 v16 v17 G1 M = some 1 → ∀ (cells slots : Nat), cells + 50 * (B + 1) ≤ 600130 ∧ slots + 3520 * (B + 1) ≤ 7301080 → ∀ (H : Heap) (locs : List Loc), WD D cy (LAs s) A1 s.heap G1 M H locs → ∀ ls : Array Slot, lv_has ls 21 [(0, .ref b), (1, .ref (A1 v1)), (2, .int v2), (3, .ref (A1 v3)), (4, .ref (A1 v4)), (5, .ref (A1 v5)), (6, .int v6), (7, .int v7), (8, .int v8), (9, .int v9), (10, .int v10), (12, .int v12), (13, .long v13), (15, .int v15), (16, .int v16), (17, .int v17)] → WL p l e s m below meth c b H locs cells slots (F0 m 394 ls []) := by
  obtain ⟨hx, hb, hr, hlocks, hml, hown, hts, hK, hX, hbl, hL⟩ := id C0
  have hA : ∀ q : Nat, s.heap.size ≤ q → LAs s q := fun _ h => h
  intro B k77 jk77 v1 v2 v3 v4 v5 v6 v7 v8 v9 v10 v12 v13 v15 v16 v17 G1 M hv1 hv3 hv4 hv5 h7 A1 hm cells slots hcs H locs hw ls hl
  unfold m_L_law_b394 at hm
  refine lv_iload hx hb dL_law_394 (lv_at hl 13 rfl) ?_
  refine lv_bipush (v := 7) hx hb dL_law_396 (by decide) ?_
  refine lv_icmp_ne (tgt := 453) hx hb dL_law_398 (by decide) (fun hq23 => ?_) (fun hq23 => ?_)
  · have hm := (if_neg hq23).symm.trans hm
    exact LJ_453 C0 B k77 jk77 v1 v2 v3 v4 v5 v6 v7 v8 v9 v10 v12 v13 v15 v16 v17 G1 M hv1 hv3 hv4 hv5 h7 A1 hm cells slots ⟨by omega, by omega⟩ H locs hw ls hl
  · have hm := (if_pos hq23).symm.trans hm
    refine lv_iload hx hb dL_law_401 (lv_at hl 6 rfl) ?_
    refine lv_if_le (tgt := 453) hx hb dL_law_403 (by decide) (fun hq101 => ?_) (fun hq101 => ?_)
    · have hm := (if_pos hq101).symm.trans hm
      exact LJ_453 C0 B k77 jk77 v1 v2 v3 v4 v5 v6 v7 v8 v9 v10 v12 v13 v15 v16 v17 G1 M hv1 hv3 hv4 hv5 h7 A1 hm cells slots ⟨by omega, by omega⟩ H locs hw ls hl
    · have hm := (if_neg hq101).symm.trans hm
      refine lv_aload_n hx hb dL_law_406 rfl (lv_at hl 1 rfl) ?_
      refine lv_iload hx hb dL_law_407 (lv_at hl 11 rfl) ?_
      obtain ⟨z102, e103, hm⟩ := bd_some hm
      refine ki hw hA (rV hx hb hml hts hown hK hw (c_X5_state l hv1 e103) hv1 (by decide) rfl (mkV 1 hts k_ml_RL_42 k_im_yX5_state k_se_yX5_state k_in_RX5 k_co_yX5_state hd_X5_state ⟨Nat.le_of_ble_eq_true rfl, Nat.le_of_ble_eq_true rfl⟩) rfl hl.1 rfl (Nat.le_of_ble_eq_true rfl) dL_law_409 ⟨show cells + 0 ≤ 600130 by omega, show slots + 0 ≤ 7301080 by omega⟩) (fun H locs hw => ?_)
      refine lv_if_ne (tgt := 453) hx hb dL_law_412 (by decide) (fun hq104 => ?_) (fun hq104 => ?_)
      · have hm := (if_neg hq104).symm.trans hm
        exact LJ_453 C0 B k77 jk77 v1 v2 v3 v4 v5 v6 v7 v8 v9 v10 v12 v13 v15 v16 v17 G1 M hv1 hv3 hv4 hv5 h7 A1 hm cells slots ⟨by omega, by omega⟩ H locs hw ls hl
      · have hm := (if_pos hq104).symm.trans hm
        refine lv_aload_n hx hb dL_law_415 rfl (lv_at hl 1 rfl) ?_
        refine lv_iload hx hb dL_law_416 (lv_at hl 11 rfl) ?_
        refine lv_aload_n hx hb dL_law_418 rfl (lv_at hl 3 rfl) ?_
        refine lv_iload hx hb dL_law_419 (lv_at hl 11 rfl) ?_
        obtain ⟨hi105, hm⟩ := ck_some hm
        refine gI hx hb hK hw hv3 hi105 dL_law_421 ?_
        refine lv_aload hx hb dL_law_422 (lv_at hl 5 rfl) ?_
        refine lv_iload_n hx hb dL_law_424 rfl (lv_at hl 2 rfl) ?_
        obtain ⟨z106, e107, hm⟩ := bd_some hm
        refine ki hw hA (rS hx hb hml hts hown hK hw (c_L_canReplace l hv1 hv5 e107) (mkS 5 hts k_ml_RL_104 k_st_yL_canReplace k_in_RL k_co_yL_canReplace hd_L_canReplace ⟨Nat.le_of_ble_eq_true rfl, Nat.le_of_ble_eq_true rfl⟩) rfl hl.1 rfl (Nat.le_of_ble_eq_true rfl) dL_law_425 ⟨show cells + 0 ≤ 600130 by omega, show slots + 0 ≤ 7301080 by omega⟩) (fun H locs hw => ?_)
        refine lv_if_eq (tgt := 453) hx hb dL_law_428 (by decide) (fun hq108 => ?_) (fun hq108 => ?_)
        · have hm := (if_pos hq108).symm.trans hm
          exact LJ_453 C0 B k77 jk77 v1 v2 v3 v4 v5 v6 v7 v8 v9 v10 v12 v13 v15 v16 v17 G1 M hv1 hv3 hv4 hv5 h7 A1 hm cells slots ⟨by omega, by omega⟩ H locs hw ls hl
        · have hm := (if_neg hq108).symm.trans hm
          refine lv_aload_n hx hb dL_law_431 rfl (lv_at hl 1 rfl) ?_
          refine lv_iload hx hb dL_law_432 (lv_at hl 11 rfl) ?_
          refine lv_iload hx hb dL_law_434 (lv_at hl 9 rfl) ?_
          refine lv_bipush (v := 10) hx hb dL_law_436 (by decide) ?_
          refine lv_ishr hx hb dL_law_438 ?_
          refine lv_aload_n hx hb dL_law_439 rfl (lv_at hl 3 rfl) ?_
          refine lv_iload hx hb dL_law_440 (lv_at hl 11 rfl) ?_
          obtain ⟨hi109, hm⟩ := ck_some hm
          refine gI hx hb hK hw hv3 hi109 dL_law_442 ?_
          obtain ⟨z110, e111, hm⟩ := bd_some hm
          refine ki hw hA (rS hx hb hml hts hown hK hw (c_L_low l e111) (mkS 2 hts k_ml_RL_82 k_st_yL_low k_in_RL k_co_yL_low hd_L_low ⟨Nat.le_of_ble_eq_true rfl, Nat.le_of_ble_eq_true rfl⟩) rfl hl.1 rfl (Nat.le_of_ble_eq_true rfl) dL_law_443 ⟨show cells + 0 ≤ 600130 by omega, show slots + 0 ≤ 7301080 by omega⟩) (fun H locs hw => ?_)
          obtain ⟨z112, e113, hm⟩ := bd_some hm
          refine kiG hw hA (rV hx hb hml hts hown hK hw (c_X5_replace l hv1 e113) hv1 (by decide) rfl (mkV 2 hts k_ml_RL_108 k_im_yX5_replace k_se_yX5_replace k_in_RX5 k_co_yX5_replace hd_X5_replace ⟨Nat.le_of_ble_eq_true rfl, Nat.le_of_ble_eq_true rfl⟩) rfl hl.1 rfl (Nat.le_of_ble_eq_true rfl) dL_law_446 ⟨show cells + 50 ≤ 600130 by omega, show slots + 3520 ≤ 7301080 by omega⟩) (fun A114 hAA115 H locs hw => ?_)
          have hl : lv_has ls 21 [(0, .ref b), (1, .ref (A114 v1)), (2, .int v2), (3, .ref (A114 v3)), (4, .ref (A114 v4)), (5, .ref (A114 v5)), (6, .int v6), (7, .int v7), (8, .int v8), (9, .int v9), (10, .int v10), (12, .int v12), (13, .long v13), (15, .int v15), (16, .int v16), (17, .int v17)] := by
            simp only [(hAA115 _ hv1.2).1, (hAA115 _ hv3.2.2).1, (hAA115 _ hv4.2.2).1, (hAA115 _ hv5.2.2).1]
            exact hl
          have hv1 := TT.mono hv1 (fun c hc => (hAA115 c hc).2)
          have hv3 := TR.mono hv3 (fun c hc => (hAA115 c hc).2)
          have hv4 := TR.mono hv4 (fun c hc => (hAA115 c hc).2)
          have hv5 := TR.mono hv5 (fun c hc => (hAA115 c hc).2)
          have h7 := la_7 (hAA115 _ (la_in h7 (show 3 < 6 by decide))).2
          refine lv_pop hx hb dL_law_449 rfl ?_
          refine lv_goto (tgt := 585) hx hb dL_law_450 (by decide) ?_
          exact LJ_585 C0 B k77 jk77 v1 v2 v3 v4 v5 v6 v7 v8 v9 v10 v13 v16 v17 z112.2.1 z112.2.2 hv1 hv3 hv4 hv5 h7 A114 hm (cells + 50) (slots + 3520) ⟨by omega, by omega⟩ H locs hw ls (lv_sub hl [0, 1, 2, 3, 4, 5, 6, 7, 8, 9, 10, 12, 14, 15] rfl)
set_option maxHeartbeats 4000000 in
set_option maxRecDepth 100000 in
theorem LJ_369 (C0 : LC p l s m meth c b L xs D cy) : ∀ (B : Nat) (k77 : Nat → Int32 → Nat → Nat → Nat → Int32 → Int32 → Int32 → (Nat → Bool) → Mem → Option Int32) (jk77 : ∀ (v1 : Nat) (v2 : Int32) (v3 : Nat) (v4 : Nat) (v5 : Nat) (v6 : Int32) (v7 : Int32) (v8 : Int32) (G1 : Nat → Bool) (M : Mem) (hv1 : TT G1 4 v1) (hv3 : TR G1 4 v3) (hv4 : TR G1 4 v4) (hv5 : TR G1 8 v5) (h7 : G1 7 = true) (A1 : Nat → Nat), k77 v1 v2 v3 v4 v5 v6 v7 v8 G1 M = some 1 → ∀ (cells slots : Nat), cells + 50 * (B) ≤ 600130 ∧ slots + 3520 * (B) ≤ 7301080 → ∀ (H : Heap) (locs : List Loc), WD D cy (LAs s) A1 s.heap G1 M H locs → ∀ ls : Array Slot, lv_has ls 21 [(0, .ref b), (1, .ref (A1 v1)), (2, .int v2), (3, .ref (A1 v3)), (4, .ref (A1 v4)), (5, .ref (A1 v5)), (6, .int v6), (7, .int v7), (8, .int v8)] → WL p l e s m below meth c b H locs cells slots (F0 m 77 ls [])) (v1 : Nat) (v2 : Int32) (v3 : Nat) (v4 : Nat) (v5 : Nat) (v6 : Int32) (v7 : Int32) (v8 : Int32) (v9 : Int32) (v10 : Int32) (v12 : Int32) (v13 : Int64) (v15 : Int32) (v16 : Int32) (v17 : Int32) (G1 : Nat → Bool) (M : Mem) (hv1 : TT G1 4 v1) (hv3 : TR G1 4 v3) (hv4 : TR G1 4 v4) (hv5 : TR G1 8 v5) (h7 : G1 7 = true) (A1 : Nat → Nat), m_L_law_b369 L xs k77 v1 v2 v3 v4 v5 v6 v7 v8 v9 v10 v12 v13 v15 v16 v17 G1 M = some 1 → ∀ (cells slots : Nat), cells + 50 * (B + 1) ≤ 600130 ∧ slots + 3520 * (B + 1) ≤ 7301080 → ∀ (H : Heap) (locs : List Loc), WD D cy (LAs s) A1 s.heap G1 M H locs → ∀ ls : Array Slot, lv_has ls 21 [(0, .ref b), (1, .ref (A1 v1)), (2, .int v2), (3, .ref (A1 v3)), (4, .ref (A1 v4)), (5, .ref (A1 v5)), (6, .int v6), (7, .int v7), (8, .int v8), (9, .int v9), (10, .int v10), (12, .int v12), (13, .long v13), (15, .int v15), (16, .int v16), (17, .int v17)] → WL p l e s m below meth c b H locs cells slots (F0 m 369 ls []) := by
  obtain ⟨hx, hb, hr, hlocks, hml, hown, hts, hK, hX, hbl, hL⟩ := id C0
  have hA : ∀ q : Nat, s.heap.size ≤ q → LAs s q := fun _ h => h
  intro B k77 jk77 v1 v2 v3 v4 v5 v6 v7 v8 v9 v10 v12 v13 v15 v16 v17 G1 M hv1 hv3 hv4 hv5 h7 A1 hm cells slots hcs H locs hw ls hl
  unfold m_L_law_b369 at hm
  refine lv_iload hx hb dL_law_369 (lv_at hl 13 rfl) ?_
  refine lv_bipush (v := 7) hx hb dL_law_371 (by decide) ?_
  refine lv_icmp_ge (tgt := 394) hx hb dL_law_373 (by decide) (fun hq22 => ?_) (fun hq22 => ?_)
  · have hm := (if_pos hq22).symm.trans hm
    exact LJ_394 C0 B k77 jk77 v1 v2 v3 v4 v5 v6 v7 v8 v9 v10 v12 v13 v15 v16 v17 G1 M hv1 hv3 hv4 hv5 h7 A1 hm cells slots ⟨by omega, by omega⟩ H locs hw ls hl
  · have hm := (if_neg hq22).symm.trans hm
    refine lv_aload hx hb dL_law_376 (lv_at hl 5 rfl) ?_
    refine lv_iload hx hb dL_law_378 (lv_at hl 10 rfl) ?_
    obtain ⟨hi116, hm⟩ := ck_some hm
    refine gI hx hb hK hw hv5 hi116 dL_law_380 ?_
    refine lv_if_ne (tgt := 394) hx hb dL_law_381 (by decide) (fun hq117 => ?_) (fun hq117 => ?_)
    · have hm := (if_neg hq117).symm.trans hm
      exact LJ_394 C0 B k77 jk77 v1 v2 v3 v4 v5 v6 v7 v8 v9 v10 v12 v13 v15 v16 v17 G1 M hv1 hv3 hv4 hv5 h7 A1 hm cells slots ⟨by omega, by omega⟩ H locs hw ls hl
    · have hm := (if_pos hq117).symm.trans hm
      refine lv_aload_n hx hb dL_law_384 rfl (lv_at hl 1 rfl) ?_
      refine lv_iload hx hb dL_law_385 (lv_at hl 10 rfl) ?_
      obtain ⟨z118, e119, hm⟩ := bd_some hm
      refine kiG hw hA (rV hx hb hml hts hown hK hw (c_X5_deliver l hv1 e119) hv1 (by decide) rfl (mkV 1 hts k_ml_RL_101 k_im_yX5_deliver k_se_yX5_deliver k_in_RX5 k_co_yX5_deliver hd_X5_deliver ⟨Nat.le_of_ble_eq_true rfl, Nat.le_of_ble_eq_true rfl⟩) rfl hl.1 rfl (Nat.le_of_ble_eq_true rfl) dL_law_387 ⟨show cells + 50 ≤ 600130 by omega, show slots + 3520 ≤ 7301080 by omega⟩) (fun A120 hAA121 H locs hw => ?_)
      have hl : lv_has ls 21 [(0, .ref b), (1, .ref (A120 v1)), (2, .int v2), (3, .ref (A120 v3)), (4, .ref (A120 v4)), (5, .ref (A120 v5)), (6, .int v6), (7, .int v7), (8, .int v8), (9, .int v9), (10, .int v10), (12, .int v12), (13, .long v13), (15, .int v15), (16, .int v16), (17, .int v17)] := by
        simp only [(hAA121 _ hv1.2).1, (hAA121 _ hv3.2.2).1, (hAA121 _ hv4.2.2).1, (hAA121 _ hv5.2.2).1]
        exact hl
      have hv1 := TT.mono hv1 (fun c hc => (hAA121 c hc).2)
      have hv3 := TR.mono hv3 (fun c hc => (hAA121 c hc).2)
      have hv4 := TR.mono hv4 (fun c hc => (hAA121 c hc).2)
      have hv5 := TR.mono hv5 (fun c hc => (hAA121 c hc).2)
      have h7 := la_7 (hAA121 _ (la_in h7 (show 3 < 6 by decide))).2
      refine lv_pop hx hb dL_law_390 rfl ?_
      refine lv_goto (tgt := 585) hx hb dL_law_391 (by decide) ?_
      exact LJ_585 C0 B k77 jk77 v1 v2 v3 v4 v5 v6 v7 v8 v9 v10 v13 v16 v17 z118.2.1 z118.2.2 hv1 hv3 hv4 hv5 h7 A120 hm (cells + 50) (slots + 3520) ⟨by omega, by omega⟩ H locs hw ls (lv_sub hl [0, 1, 2, 3, 4, 5, 6, 7, 8, 9, 10, 12, 14, 15] rfl)
set_option maxHeartbeats 4000000 in
set_option maxRecDepth 100000 in
theorem LJ_338 (C0 : LC p l s m meth c b L xs D cy) : ∀ (B : Nat) (k77 : Nat → Int32 → Nat → Nat → Nat → Int32 → Int32 → Int32 → (Nat → Bool) → Mem → Option Int32) (jk77 : ∀ (v1 : Nat) (v2 : Int32) (v3 : Nat) (v4 : Nat) (v5 : Nat) (v6 : Int32) (v7 : Int32) (v8 : Int32) (G1 : Nat → Bool) (M : Mem) (hv1 : TT G1 4 v1) (hv3 : TR G1 4 v3) (hv4 : TR G1 4 v4) (hv5 : TR G1 8 v5) (h7 : G1 7 = true) (A1 : Nat → Nat), k77 v1 v2 v3 v4 v5 v6 v7 v8 G1 M = some 1 → ∀ (cells slots : Nat), cells + 50 * (B) ≤ 600130 ∧ slots + 3520 * (B) ≤ 7301080 → ∀ (H : Heap) (locs : List Loc), WD D cy (LAs s) A1 s.heap G1 M H locs → ∀ ls : Array Slot, lv_has ls 21 [(0, .ref b), (1, .ref (A1 v1)), (2, .int v2), (3, .ref (A1 v3)), (4, .ref (A1 v4)), (5, .ref (A1 v5)), (6, .int v6), (7, .int v7), (8, .int v8)] → WL p l e s m below meth c b H locs cells slots (F0 m 77 ls [])) (v1 : Nat) (v2 : Int32) (v3 : Nat) (v4 : Nat) (v5 : Nat) (v6 : Int32) (v7 : Int32) (v8 : Int32) (v9 : Int32) (v10 : Int32) (v12 : Int32) (v13 : Int64) (v15 : Int32) (v16 : Int32) (v17 : Int32) (G1 : Nat → Bool) (M : Mem) (hv1 : TT G1 4 v1) (hv3 : TR G1 4 v3) (hv4 : TR G1 4 v4) (hv5 : TR G1 8 v5) (h7 : G1 7 = true) (A1 : Nat → Nat), m_L_law_b338 L xs k77 v1 v2 v3 v4 v5 v6 v7 v8 v9 v10 v12 v13 v15 v16 v17 G1 M = some 1 → ∀ (cells slots : Nat), cells + 50 * (B + 1) ≤ 600130 ∧ slots + 3520 * (B + 1) ≤ 7301080 → ∀ (H : Heap) (locs : List Loc), WD D cy (LAs s) A1 s.heap G1 M H locs → ∀ ls : Array Slot, lv_has ls 21 [(0, .ref b), (1, .ref (A1 v1)), (2, .int v2), (3, .ref (A1 v3)), (4, .ref (A1 v4)), (5, .ref (A1 v5)), (6, .int v6), (7, .int v7), (8, .int v8), (9, .int v9), (10, .int v10), (12, .int v12), (13, .long v13), (15, .int v15), (16, .int v16), (17, .int v17)] → WL p l e s m below meth c b H locs cells slots (F0 m 338 ls []) := by
  obtain ⟨hx, hb, hr, hlocks, hml, hown, hts, hK, hX, hbl, hL⟩ := id C0
  have hA : ∀ q : Nat, s.heap.size ≤ q → LAs s q := fun _ h => h
  intro B k77 jk77 v1 v2 v3 v4 v5 v6 v7 v8 v9 v10 v12 v13 v15 v16 v17 G1 M hv1 hv3 hv4 hv5 h7 A1 hm cells slots hcs H locs hw ls hl
  unfold m_L_law_b338 at hm
  refine lv_iload hx hb dL_law_338 (lv_at hl 13 rfl) ?_
  refine lv_iconst (v := 4) hx hb dL_law_340 (by decide) ?_
  refine lv_icmp_ge (tgt := 369) hx hb dL_law_341 (by decide) (fun hq21 => ?_) (fun hq21 => ?_)
  · have hm := (if_pos hq21).symm.trans hm
    exact LJ_369 C0 B k77 jk77 v1 v2 v3 v4 v5 v6 v7 v8 v9 v10 v12 v13 v15 v16 v17 G1 M hv1 hv3 hv4 hv5 h7 A1 hm cells slots ⟨by omega, by omega⟩ H locs hw ls hl
  · have hm := (if_neg hq21).symm.trans hm
    refine lv_aload hx hb dL_law_344 (lv_at hl 5 rfl) ?_
    refine lv_iload hx hb dL_law_346 (lv_at hl 10 rfl) ?_
    obtain ⟨hi122, hm⟩ := ck_some hm
    refine gI hx hb hK hw hv5 hi122 dL_law_348 ?_
    refine lv_iconst (v := 1) hx hb dL_law_349 (by decide) ?_
    refine lv_icmp_ne (tgt := 369) hx hb dL_law_350 (by decide) (fun hq123 => ?_) (fun hq123 => ?_)
    · have hm := (if_neg hq123).symm.trans hm
      exact LJ_369 C0 B k77 jk77 v1 v2 v3 v4 v5 v6 v7 v8 v9 v10 v12 v13 v15 v16 v17 G1 M hv1 hv3 hv4 hv5 h7 A1 hm cells slots ⟨by omega, by omega⟩ H locs hw ls hl
    · have hm := (if_pos hq123).symm.trans hm
      refine lv_aload_n hx hb dL_law_353 rfl (lv_at hl 1 rfl) ?_
      refine lv_iload hx hb dL_law_354 (lv_at hl 10 rfl) ?_
      obtain ⟨z124, e125, hm⟩ := bd_some hm
      refine kiG hw hA (rV hx hb hml hts hown hK hw (c_X5_restart l hv1 e125) hv1 (by decide) rfl (mkV 1 hts k_ml_RL_98 k_im_yX5_restart k_se_yX5_restart k_in_RX5 k_co_yX5_restart hd_X5_restart ⟨Nat.le_of_ble_eq_true rfl, Nat.le_of_ble_eq_true rfl⟩) rfl hl.1 rfl (Nat.le_of_ble_eq_true rfl) dL_law_356 ⟨show cells + 50 ≤ 600130 by omega, show slots + 3520 ≤ 7301080 by omega⟩) (fun A126 hAA127 H locs hw => ?_)
      have hl : lv_has ls 21 [(0, .ref b), (1, .ref (A126 v1)), (2, .int v2), (3, .ref (A126 v3)), (4, .ref (A126 v4)), (5, .ref (A126 v5)), (6, .int v6), (7, .int v7), (8, .int v8), (9, .int v9), (10, .int v10), (12, .int v12), (13, .long v13), (15, .int v15), (16, .int v16), (17, .int v17)] := by
        simp only [(hAA127 _ hv1.2).1, (hAA127 _ hv3.2.2).1, (hAA127 _ hv4.2.2).1, (hAA127 _ hv5.2.2).1]
        exact hl
      have hv1 := TT.mono hv1 (fun c hc => (hAA127 c hc).2)
      have hv3 := TR.mono hv3 (fun c hc => (hAA127 c hc).2)
      have hv4 := TR.mono hv4 (fun c hc => (hAA127 c hc).2)
      have hv5 := TR.mono hv5 (fun c hc => (hAA127 c hc).2)
      have h7 := la_7 (hAA127 _ (la_in h7 (show 3 < 6 by decide))).2
      refine lv_pop hx hb dL_law_359 rfl ?_
      refine lv_aload hx hb dL_law_360 (lv_at hl 5 rfl) ?_
      refine lv_iload hx hb dL_law_362 (lv_at hl 10 rfl) ?_
      refine lv_iconst (v := 0) hx hb dL_law_364 (by decide) ?_
      obtain ⟨hi128, hm⟩ := ck_some hm
      refine pI hx hb hK hw hv5 hi128 dL_law_365 (fun H locs hw => ?_)
      refine lv_goto (tgt := 585) hx hb dL_law_366 (by decide) ?_
      exact LJ_585 C0 B k77 jk77 v1 v2 v3 v4 v5 v6 v7 v8 v9 v10 v13 v16 v17 z124.2.1 (aI v5 v10 0 z124.2.2) hv1 hv3 hv4 hv5 h7 A126 hm (cells + 50) (slots + 3520) ⟨by omega, by omega⟩ H locs hw ls (lv_sub hl [0, 1, 2, 3, 4, 5, 6, 7, 8, 9, 10, 12, 14, 15] rfl)
set_option maxHeartbeats 4000000 in
set_option maxRecDepth 100000 in
theorem LJ_308 (C0 : LC p l s m meth c b L xs D cy) : ∀ (B : Nat) (k77 : Nat → Int32 → Nat → Nat → Nat → Int32 → Int32 → Int32 → (Nat → Bool) → Mem → Option Int32) (jk77 : ∀ (v1 : Nat) (v2 : Int32) (v3 : Nat) (v4 : Nat) (v5 : Nat) (v6 : Int32) (v7 : Int32) (v8 : Int32) (G1 : Nat → Bool) (M : Mem) (hv1 : TT G1 4 v1) (hv3 : TR G1 4 v3) (hv4 : TR G1 4 v4) (hv5 : TR G1 8 v5) (h7 : G1 7 = true) (A1 : Nat → Nat), k77 v1 v2 v3 v4 v5 v6 v7 v8 G1 M = some 1 → ∀ (cells slots : Nat), cells + 50 * (B) ≤ 600130 ∧ slots + 3520 * (B) ≤ 7301080 → ∀ (H : Heap) (locs : List Loc), WD D cy (LAs s) A1 s.heap G1 M H locs → ∀ ls : Array Slot, lv_has ls 21 [(0, .ref b), (1, .ref (A1 v1)), (2, .int v2), (3, .ref (A1 v3)), (4, .ref (A1 v4)), (5, .ref (A1 v5)), (6, .int v6), (7, .int v7), (8, .int v8)] → WL p l e s m below meth c b H locs cells slots (F0 m 77 ls [])) (v1 : Nat) (v2 : Int32) (v3 : Nat) (v4 : Nat) (v5 : Nat) (v6 : Int32) (v7 : Int32) (v8 : Int32) (v9 : Int32) (v10 : Int32) (v12 : Int32) (v13 : Int64) (v15 : Int32) (v16 : Int32) (v17 : Int32) (G1 : Nat → Bool) (M : Mem) (hv1 : TT G1 4 v1) (hv3 : TR G1 4 v3) (hv4 : TR G1 4 v4) (hv5 : TR G1 8 v5) (h7 : G1 7 = true) (A1 : Nat → Nat), m_L_law_b308 L xs k77 v1 v2 v3 v4 v5 v6 v7 v8 v9 v10 v12 v13 v15 v16 v17 G1 M = some 1 → ∀ (cells slots : Nat), cells + 50 * (B + 1) ≤ 600130 ∧ slots + 3520 * (B + 1) ≤ 7301080 → ∀ (H : Heap) (locs : List Loc), WD D cy (LAs s) A1 s.heap G1 M H locs → ∀ ls : Array Slot, lv_has ls 21 [(0, .ref b), (1, .ref (A1 v1)), (2, .int v2), (3, .ref (A1 v3)), (4, .ref (A1 v4)), (5, .ref (A1 v5)), (6, .int v6), (7, .int v7), (8, .int v8), (9, .int v9), (10, .int v10), (12, .int v12), (13, .long v13), (15, .int v15), (16, .int v16), (17, .int v17)] → WL p l e s m below meth c b H locs cells slots (F0 m 308 ls []) := by
  obtain ⟨hx, hb, hr, hlocks, hml, hown, hts, hK, hX, hbl, hL⟩ := id C0
  have hA : ∀ q : Nat, s.heap.size ≤ q → LAs s q := fun _ h => h
  intro B k77 jk77 v1 v2 v3 v4 v5 v6 v7 v8 v9 v10 v12 v13 v15 v16 v17 G1 M hv1 hv3 hv4 hv5 h7 A1 hm cells slots hcs H locs hw ls hl
  unfold m_L_law_b308 at hm
  refine lv_iload hx hb dL_law_308 (lv_at hl 13 rfl) ?_
  refine lv_iconst (v := 1) hx hb dL_law_310 (by decide) ?_
  refine lv_icmp_ne (tgt := 338) hx hb dL_law_311 (by decide) (fun hq20 => ?_) (fun hq20 => ?_)
  · have hm := (if_neg hq20).symm.trans hm
    exact LJ_338 C0 B k77 jk77 v1 v2 v3 v4 v5 v6 v7 v8 v9 v10 v12 v13 v15 v16 v17 G1 M hv1 hv3 hv4 hv5 h7 A1 hm cells slots ⟨by omega, by omega⟩ H locs hw ls hl
  · have hm := (if_pos hq20).symm.trans hm
    refine lv_aload hx hb dL_law_314 (lv_at hl 5 rfl) ?_
    refine lv_iload hx hb dL_law_316 (lv_at hl 10 rfl) ?_
    obtain ⟨hi129, hm⟩ := ck_some hm
    refine gI hx hb hK hw hv5 hi129 dL_law_318 ?_
    refine lv_if_ne (tgt := 338) hx hb dL_law_319 (by decide) (fun hq130 => ?_) (fun hq130 => ?_)
    · have hm := (if_neg hq130).symm.trans hm
      exact LJ_338 C0 B k77 jk77 v1 v2 v3 v4 v5 v6 v7 v8 v9 v10 v12 v13 v15 v16 v17 G1 M hv1 hv3 hv4 hv5 h7 A1 hm cells slots ⟨by omega, by omega⟩ H locs hw ls hl
    · have hm := (if_pos hq130).symm.trans hm
      refine lv_aload_n hx hb dL_law_322 rfl (lv_at hl 1 rfl) ?_
      refine lv_iload hx hb dL_law_323 (lv_at hl 10 rfl) ?_
      obtain ⟨z131, e132, hm⟩ := bd_some hm
      refine kiG hw hA (rV hx hb hml hts hown hK hw (c_X5_crash l hv1 e132) hv1 (by decide) rfl (mkV 1 hts k_ml_RL_95 k_im_yX5_crash k_se_yX5_crash k_in_RX5 k_co_yX5_crash hd_X5_crash ⟨Nat.le_of_ble_eq_true rfl, Nat.le_of_ble_eq_true rfl⟩) rfl hl.1 rfl (Nat.le_of_ble_eq_true rfl) dL_law_325 ⟨show cells + 50 ≤ 600130 by omega, show slots + 3520 ≤ 7301080 by omega⟩) (fun A133 hAA134 H locs hw => ?_)
      have hl : lv_has ls 21 [(0, .ref b), (1, .ref (A133 v1)), (2, .int v2), (3, .ref (A133 v3)), (4, .ref (A133 v4)), (5, .ref (A133 v5)), (6, .int v6), (7, .int v7), (8, .int v8), (9, .int v9), (10, .int v10), (12, .int v12), (13, .long v13), (15, .int v15), (16, .int v16), (17, .int v17)] := by
        simp only [(hAA134 _ hv1.2).1, (hAA134 _ hv3.2.2).1, (hAA134 _ hv4.2.2).1, (hAA134 _ hv5.2.2).1]
        exact hl
      have hv1 := TT.mono hv1 (fun c hc => (hAA134 c hc).2)
      have hv3 := TR.mono hv3 (fun c hc => (hAA134 c hc).2)
      have hv4 := TR.mono hv4 (fun c hc => (hAA134 c hc).2)
      have hv5 := TR.mono hv5 (fun c hc => (hAA134 c hc).2)
      have h7 := la_7 (hAA134 _ (la_in h7 (show 3 < 6 by decide))).2
      refine lv_pop hx hb dL_law_328 rfl ?_
      refine lv_aload hx hb dL_law_329 (lv_at hl 5 rfl) ?_
      refine lv_iload hx hb dL_law_331 (lv_at hl 10 rfl) ?_
      refine lv_iconst (v := 1) hx hb dL_law_333 (by decide) ?_
      obtain ⟨hi135, hm⟩ := ck_some hm
      refine pI hx hb hK hw hv5 hi135 dL_law_334 (fun H locs hw => ?_)
      refine lv_goto (tgt := 585) hx hb dL_law_335 (by decide) ?_
      exact LJ_585 C0 B k77 jk77 v1 v2 v3 v4 v5 v6 v7 v8 v9 v10 v13 v16 v17 z131.2.1 (aI v5 v10 1 z131.2.2) hv1 hv3 hv4 hv5 h7 A133 hm (cells + 50) (slots + 3520) ⟨by omega, by omega⟩ H locs hw ls (lv_sub hl [0, 1, 2, 3, 4, 5, 6, 7, 8, 9, 10, 12, 14, 15] rfl)
set_option maxHeartbeats 4000000 in
set_option maxRecDepth 100000 in
theorem LJ_234 (C0 : LC p l s m meth c b L xs D cy) : ∀ (B : Nat) (k77 : Nat → Int32 → Nat → Nat → Nat → Int32 → Int32 → Int32 → (Nat → Bool) → Mem → Option Int32) (jk77 : ∀ (v1 : Nat) (v2 : Int32) (v3 : Nat) (v4 : Nat) (v5 : Nat) (v6 : Int32) (v7 : Int32) (v8 : Int32) (G1 : Nat → Bool) (M : Mem) (hv1 : TT G1 4 v1) (hv3 : TR G1 4 v3) (hv4 : TR G1 4 v4) (hv5 : TR G1 8 v5) (h7 : G1 7 = true) (A1 : Nat → Nat), k77 v1 v2 v3 v4 v5 v6 v7 v8 G1 M = some 1 → ∀ (cells slots : Nat), cells + 50 * (B) ≤ 600130 ∧ slots + 3520 * (B) ≤ 7301080 → ∀ (H : Heap) (locs : List Loc), WD D cy (LAs s) A1 s.heap G1 M H locs → ∀ ls : Array Slot, lv_has ls 21 [(0, .ref b), (1, .ref (A1 v1)), (2, .int v2), (3, .ref (A1 v3)), (4, .ref (A1 v4)), (5, .ref (A1 v5)), (6, .int v6), (7, .int v7), (8, .int v8)] → WL p l e s m below meth c b H locs cells slots (F0 m 77 ls [])) (v1 : Nat) (v2 : Int32) (v3 : Nat) (v4 : Nat) (v5 : Nat) (v6 : Int32) (v7 : Int32) (v8 : Int32) (v9 : Int32) (v10 : Int32) (v13 : Int64) (v16 : Int32) (v17 : Int32) (u0 : Nat) (u1 : Int32) (u2 : Int32) (u3 : Int32) (u4 : Int32) (G1 : Nat → Bool) (M : Mem) (hv1 : TT G1 4 v1) (hv3 : TR G1 4 v3) (hv4 : TR G1 4 v4) (hv5 : TR G1 8 v5) (hu0 : TR G1 4 u0) (h7 : G1 7 = true) (A1 : Nat → Nat), m_L_law_b234 L xs k77 v1 v2 v3 v4 v5 v6 v7 v8 v9 v10 v13 v16 v17 u0 u1 u2 u3 u4 G1 M = some 1 → ∀ (cells slots : Nat), cells + 50 * (B + 1) ≤ 600130 ∧ slots + 3520 * (B + 1) ≤ 7301080 → ∀ (H : Heap) (locs : List Loc), WD D cy (LAs s) A1 s.heap G1 M H locs → ∀ ls : Array Slot, lv_has ls 21 [(0, .ref b), (1, .ref (A1 v1)), (2, .int v2), (3, .ref (A1 v3)), (4, .ref (A1 v4)), (5, .ref (A1 v5)), (6, .int v6), (7, .int v7), (8, .int v8), (9, .int v9), (10, .int v10), (13, .long v13), (16, .int v16), (17, .int v17)] → WL p l e s m below meth c b H locs cells slots (F0 m 234 ls [.int u4, .int u3, .int u2, .int u1, .ref (A1 u0)]) := by
  obtain ⟨hx, hb, hr, hlocks, hml, hown, hts, hK, hX, hbl, hL⟩ := id C0
  have hA : ∀ q : Nat, s.heap.size ≤ q → LAs s q := fun _ h => h
  intro B k77 jk77 v1 v2 v3 v4 v5 v6 v7 v8 v9 v10 v13 v16 v17 u0 u1 u2 u3 u4 G1 M hv1 hv3 hv4 hv5 hu0 h7 A1 hm cells slots hcs H locs hw ls hl
  unfold m_L_law_b234 at hm
  obtain ⟨z138, e139, hm⟩ := bd_some hm
  refine ki hw hA (rS hx hb hml hts hown hK hw (c_L_low l e139) (mkS 2 hts k_ml_RL_82 k_st_yL_low k_in_RL k_co_yL_low hd_L_low ⟨Nat.le_of_ble_eq_true rfl, Nat.le_of_ble_eq_true rfl⟩) rfl hl.1 rfl (Nat.le_of_ble_eq_true rfl) dL_law_234 ⟨show cells + 0 ≤ 600130 by omega, show slots + 0 ≤ 7301080 by omega⟩) (fun H locs hw => ?_)
  refine lv_iadd hx hb dL_law_237 ?_
  obtain ⟨hi140, hm⟩ := ck_some hm
  refine pI hx hb hK hw hu0 hi140 dL_law_238 (fun H locs hw => ?_)
  refine lv_iconst (v := 1) hx hb dL_law_239 (by decide) ?_
  refine lv_iload hx hb dL_law_240 (lv_at hl 9 rfl) ?_
  refine lv_bipush (v := 13) hx hb dL_law_242 (by decide) ?_
  refine lv_ishr hx hb dL_law_244 ?_
  refine lv_aload_n hx hb dL_law_245 rfl (lv_at hl 3 rfl) ?_
  refine lv_iload hx hb dL_law_246 (lv_at hl 6 rfl) ?_
  obtain ⟨hi141, hm⟩ := ck_some hm
  refine gI hx hb hK hw hv3 hi141 dL_law_248 ?_
  obtain ⟨z142, e143, hm⟩ := bd_some hm
  refine ki hw hA (rS hx hb hml hts hown hK hw (c_L_low l e143) (mkS 2 hts k_ml_RL_82 k_st_yL_low k_in_RL k_co_yL_low hd_L_low ⟨Nat.le_of_ble_eq_true rfl, Nat.le_of_ble_eq_true rfl⟩) rfl hl.1 rfl (Nat.le_of_ble_eq_true rfl) dL_law_249 ⟨show cells + 0 ≤ 600130 by omega, show slots + 0 ≤ 7301080 by omega⟩) (fun H locs hw => ?_)
  refine lv_iadd hx hb dL_law_252 ?_
  refine lv_istore (lv' := [(19, .int (1 + z142)), (0, .ref b), (1, .ref (A1 v1)), (2, .int v2), (3, .ref (A1 v3)), (4, .ref (A1 v4)), (5, .ref (A1 v5)), (6, .int v6), (7, .int v7), (8, .int v8), (9, .int v9), (10, .int v10), (13, .long v13), (16, .int v16), (17, .int v17)]) hx hb dL_law_253 hl (by decide) rfl (fun ls hl => ?_)
  refine lv_aload hx hb dL_law_255 (lv_at hl 5 rfl) ?_
  refine lv_iload hx hb dL_law_257 (lv_at hl 7 rfl) ?_
  refine lv_iconst (v := (-1)) hx hb dL_law_259 (by decide) ?_
  obtain ⟨hi144, hm⟩ := ck_some hm
  refine pI hx hb hK hw hv4 hi144 dL_law_260 (fun H locs hw => ?_)
  refine lv_aload_n hx hb dL_law_261 rfl (lv_at hl 2 rfl) ?_
  refine lv_aload_n hx hb dL_law_262 rfl (lv_at hl 4 rfl) ?_
  refine lv_iload hx hb dL_law_263 (lv_at hl 7 rfl) ?_
  obtain ⟨hi145, hm⟩ := ck_some hm
  refine gI hx hb hK hw hv3 hi145 dL_law_265 ?_
  refine lv_iload hx hb dL_law_266 (lv_at hl 0 rfl) ?_
  refine lv_iconst (v := 1) hx hb dL_law_268 (by decide) ?_
  refine lv_iload hx hb dL_law_269 (lv_at hl 10 rfl) ?_
  refine lv_bipush (v := 16) hx hb dL_law_271 (by decide) ?_
  refine lv_ishr hx hb dL_law_273 ?_
  refine lv_iload hx hb dL_law_274 (lv_at hl 0 rfl) ?_
  obtain ⟨z146, e147, hm⟩ := bd_some hm
  refine ki hw hA (rS hx hb hml hts hown hK hw (c_L_low l e147) (mkS 2 hts k_ml_RL_82 k_st_yL_low k_in_RL k_co_yL_low hd_L_low ⟨Nat.le_of_ble_eq_true rfl, Nat.le_of_ble_eq_true rfl⟩) rfl hl.1 rfl (Nat.le_of_ble_eq_true rfl) dL_law_276 ⟨show cells + 0 ≤ 600130 by omega, show slots + 0 ≤ 7301080 by omega⟩) (fun H locs hw => ?_)
  refine lv_iadd hx hb dL_law_279 ?_
  obtain ⟨z148, e149, hm⟩ := bd_some hm
  refine kiG hw hA (rV hx hb hml hts hown hK hw (c_X5_createLedger l hv1 e149) hv1 (by decide) rfl (mkV 3 hts k_ml_RL_92 k_im_yX5_createLedger k_se_yX5_createLedger k_in_RX5 k_co_yX5_createLedger hd_X5_createLedger ⟨Nat.le_of_ble_eq_true rfl, Nat.le_of_ble_eq_true rfl⟩) rfl hl.1 rfl (Nat.le_of_ble_eq_true rfl) dL_law_280 ⟨show cells + 50 ≤ 600130 by omega, show slots + 3520 ≤ 7301080 by omega⟩) (fun A150 hAA151 H locs hw => ?_)
  have hl : lv_has ls 21 [(19, .int (1 + z142)), (0, .ref b), (1, .ref (A150 v1)), (2, .int v2), (3, .ref (A150 v3)), (4, .ref (A150 v4)), (5, .ref (A150 v5)), (6, .int v6), (7, .int v7), (8, .int v8), (9, .int v9), (10, .int v10), (13, .long v13), (16, .int v16), (17, .int v17)] := by
    simp only [(hAA151 _ hv1.2).1, (hAA151 _ hv3.2.2).1, (hAA151 _ hv4.2.2).1, (hAA151 _ hv5.2.2).1]
    exact hl
  have hv1 := TT.mono hv1 (fun c hc => (hAA151 c hc).2)
  have hv3 := TR.mono hv3 (fun c hc => (hAA151 c hc).2)
  have hv4 := TR.mono hv4 (fun c hc => (hAA151 c hc).2)
  have hv5 := TR.mono hv5 (fun c hc => (hAA151 c hc).2)
  have h7 := la_7 (hAA151 _ (la_in h7 (show 3 < 6 by decide))).2
  refine lv_iload hx hb dL_law_283 (lv_at hl 7 rfl) ?_
  refine lv_icmp_ne (tgt := 292) hx hb dL_law_285 (by decide) (fun hq152 => ?_) (fun hq152 => ?_)
  · have hm := (if_neg hq152).symm.trans hm
    refine lv_iconst (v := 0) hx hb dL_law_292 (by decide) ?_
    refine lv_istore (lv' := [(18, .int 0), (19, .int (1 + z142)), (0, .ref b), (1, .ref (A150 v1)), (2, .int v2), (3, .ref (A150 v3)), (4, .ref (A150 v4)), (5, .ref (A150 v5)), (6, .int v6), (7, .int v7), (8, .int v8), (9, .int v9), (10, .int v10), (13, .long v13), (16, .int v16), (17, .int v17)]) hx hb dL_law_293 hl (by decide) rfl (fun ls hl => ?_)
    refine lv_iinc (v := (v6 + 1)) (lv' := [(6, .int (v6 + 1)), (18, .int 0), (19, .int (1 + z142)), (0, .ref b), (1, .ref (A150 v1)), (2, .int v2), (3, .ref (A150 v3)), (4, .ref (A150 v4)), (5, .ref (A150 v5)), (7, .int v7), (8, .int v8), (9, .int v9), (10, .int v10), (13, .long v13), (16, .int v16), (17, .int v17)]) hx hb dL_law_295 hl (k := 8) rfl rfl (by decide) rfl (fun ls hl => ?_)
    refine lv_iload hx hb dL_law_298 (lv_at hl 1 rfl) ?_
    refine lv_if_ne (tgt := 305) hx hb dL_law_300 (by decide) (fun hq153 => ?_) (fun hq153 => ?_)
    · have hm := (if_neg hq153).symm.trans hm
      refine lv_goto (tgt := 585) hx hb dL_law_305 (by decide) ?_
      exact LJ_585 C0 B k77 jk77 v1 v2 v3 v4 v5 (v6 + 1) v7 v8 v9 v10 v13 v16 v17 z148.2.1 z148.2.2 hv1 hv3 hv4 hv5 h7 A150 hm (cells + 50) (slots + 3520) ⟨by omega, by omega⟩ H locs hw ls (lv_sub hl [3, 4, 5, 6, 7, 8, 0, 9, 10, 11, 12, 13, 14, 15] rfl)
    · have hm := (if_pos hq153).symm.trans hm
      refine lv_iconst (v := 0) hx hb dL_law_303 (by decide) ?_
      exact absurd (Option.some.inj hm) (by decide)
  · have hm := (if_pos hq152).symm.trans hm
    refine lv_iconst (v := 1) hx hb dL_law_288 (by decide) ?_
    refine lv_goto (tgt := 293) hx hb dL_law_289 (by decide) ?_
    refine lv_istore (lv' := [(18, .int 1), (19, .int (1 + z142)), (0, .ref b), (1, .ref (A150 v1)), (2, .int v2), (3, .ref (A150 v3)), (4, .ref (A150 v4)), (5, .ref (A150 v5)), (6, .int v6), (7, .int v7), (8, .int v8), (9, .int v9), (10, .int v10), (13, .long v13), (16, .int v16), (17, .int v17)]) hx hb dL_law_293 hl (by decide) rfl (fun ls hl => ?_)
    refine lv_iinc (v := (v6 + 1)) (lv' := [(6, .int (v6 + 1)), (18, .int 1), (19, .int (1 + z142)), (0, .ref b), (1, .ref (A150 v1)), (2, .int v2), (3, .ref (A150 v3)), (4, .ref (A150 v4)), (5, .ref (A150 v5)), (7, .int v7), (8, .int v8), (9, .int v9), (10, .int v10), (13, .long v13), (16, .int v16), (17, .int v17)]) hx hb dL_law_295 hl (k := 8) rfl rfl (by decide) rfl (fun ls hl => ?_)
    refine lv_iload hx hb dL_law_298 (lv_at hl 1 rfl) ?_
    refine lv_if_ne (tgt := 305) hx hb dL_law_300 (by decide) (fun hq154 => ?_) (fun hq154 => ?_)
    · have hm := (if_neg hq154).symm.trans hm
      refine lv_goto (tgt := 585) hx hb dL_law_305 (by decide) ?_
      exact LJ_585 C0 B k77 jk77 v1 v2 v3 v4 v5 (v6 + 1) v7 v8 v9 v10 v13 v16 v17 z148.2.1 z148.2.2 hv1 hv3 hv4 hv5 h7 A150 hm (cells + 50) (slots + 3520) ⟨by omega, by omega⟩ H locs hw ls (lv_sub hl [3, 4, 5, 6, 7, 8, 0, 9, 10, 11, 12, 13, 14, 15] rfl)
    · have hm := (if_pos hq154).symm.trans hm
      refine lv_iconst (v := 0) hx hb dL_law_303 (by decide) ?_
      exact absurd (Option.some.inj hm) (by decide)
set_option maxHeartbeats 4000000 in
set_option maxRecDepth 100000 in
theorem LJ_202 (C0 : LC p l s m meth c b L xs D cy) : ∀ (B : Nat) (k77 : Nat → Int32 → Nat → Nat → Nat → Int32 → Int32 → Int32 → (Nat → Bool) → Mem → Option Int32) (jk77 : ∀ (v1 : Nat) (v2 : Int32) (v3 : Nat) (v4 : Nat) (v5 : Nat) (v6 : Int32) (v7 : Int32) (v8 : Int32) (G1 : Nat → Bool) (M : Mem) (hv1 : TT G1 4 v1) (hv3 : TR G1 4 v3) (hv4 : TR G1 4 v4) (hv5 : TR G1 8 v5) (h7 : G1 7 = true) (A1 : Nat → Nat), k77 v1 v2 v3 v4 v5 v6 v7 v8 G1 M = some 1 → ∀ (cells slots : Nat), cells + 50 * (B) ≤ 600130 ∧ slots + 3520 * (B) ≤ 7301080 → ∀ (H : Heap) (locs : List Loc), WD D cy (LAs s) A1 s.heap G1 M H locs → ∀ ls : Array Slot, lv_has ls 21 [(0, .ref b), (1, .ref (A1 v1)), (2, .int v2), (3, .ref (A1 v3)), (4, .ref (A1 v4)), (5, .ref (A1 v5)), (6, .int v6), (7, .int v7), (8, .int v8)] → WL p l e s m below meth c b H locs cells slots (F0 m 77 ls [])) (v1 : Nat) (v2 : Int32) (v3 : Nat) (v4 : Nat) (v5 : Nat) (v6 : Int32) (v7 : Int32) (v8 : Int32) (v9 : Int32) (v10 : Int32) (v11 : Int32) (v12 : Int32) (v13 : Int64) (v15 : Int32) (v16 : Int32) (v17 : Int32) (G1 : Nat → Bool) (M : Mem) (hv1 : TT G1 4 v1) (hv3 : TR G1 4 v3) (hv4 : TR G1 4 v4) (hv5 : TR G1 8 v5) (h7 : G1 7 = true) (A1 : Nat → Nat), m_L_law_b202 L xs k77 v1 v2 v3 v4 v5 v6 v7 v8 v9 v10 v11 v12 v13 v15 v16 v17 G1 M = some 1 → ∀ (cells slots : Nat), cells + 50 * (B + 1) ≤ 600130 ∧ slots + 3520 * (B + 1) ≤ 7301080 → ∀ (H : Heap) (locs : List Loc), WD D cy (LAs s) A1 s.heap G1 M H locs → ∀ ls : Array Slot, lv_has ls 21 [(0, .ref b), (1, .ref (A1 v1)), (2, .int v2), (3, .ref (A1 v3)), (4, .ref (A1 v4)), (5, .ref (A1 v5)), (6, .int v6), (7, .int v7), (8, .int v8), (9, .int v9), (10, .int v10), (11, .int v11), (12, .int v12), (13, .long v13), (15, .int v15), (16, .int v16), (17, .int v17)] → WL p l e s m below meth c b H locs cells slots (F0 m 202 ls []) := by
  obtain ⟨hx, hb, hr, hlocks, hml, hown, hts, hK, hX, hbl, hL⟩ := id C0
  have hA : ∀ q : Nat, s.heap.size ≤ q → LAs s q := fun _ h => h
  intro B k77 jk77 v1 v2 v3 v4 v5 v6 v7 v8 v9 v10 v11 v12 v13 v15 v16 v17 G1 M hv1 hv3 hv4 hv5 h7 A1 hm cells slots hcs H locs hw ls hl
  unfold m_L_law_b202 at hm
  refine lv_iload hx hb dL_law_202 (lv_at hl 6 rfl) ?_
  refine lv_iconst (v := 3) hx hb dL_law_204 (by decide) ?_
  refine lv_icmp_ge (tgt := 308) hx hb dL_law_205 (by decide) (fun hq19 => ?_) (fun hq19 => ?_)
  · have hm := (if_pos hq19).symm.trans hm
    exact LJ_308 C0 B k77 jk77 v1 v2 v3 v4 v5 v6 v7 v8 v9 v10 v12 v13 v15 v16 v17 G1 M hv1 hv3 hv4 hv5 h7 A1 hm cells slots ⟨by omega, by omega⟩ H locs hw ls (lv_sub hl [0, 1, 2, 3, 4, 5, 6, 7, 8, 9, 10, 12, 13, 14, 15, 16] rfl)
  · have hm := (if_neg hq19).symm.trans hm
    refine lv_iload hx hb dL_law_208 (lv_at hl 11 rfl) ?_
    refine lv_if_le (tgt := 308) hx hb dL_law_210 (by decide) (fun hq136 => ?_) (fun hq136 => ?_)
    · have hm := (if_pos hq136).symm.trans hm
      exact LJ_308 C0 B k77 jk77 v1 v2 v3 v4 v5 v6 v7 v8 v9 v10 v12 v13 v15 v16 v17 G1 M hv1 hv3 hv4 hv5 h7 A1 hm cells slots ⟨by omega, by omega⟩ H locs hw ls (lv_sub hl [0, 1, 2, 3, 4, 5, 6, 7, 8, 9, 10, 12, 13, 14, 15, 16] rfl)
    · have hm := (if_neg hq136).symm.trans hm
      refine lv_aload_n hx hb dL_law_213 rfl (lv_at hl 3 rfl) ?_
      refine lv_iload hx hb dL_law_214 (lv_at hl 6 rfl) ?_
      refine lv_iconst (v := 1) hx hb dL_law_216 (by decide) ?_
      refine lv_iload hx hb dL_law_217 (lv_at hl 9 rfl) ?_
      refine lv_bipush (v := 10) hx hb dL_law_219 (by decide) ?_
      refine lv_ishr hx hb dL_law_221 ?_
      refine lv_iload hx hb dL_law_222 (lv_at hl 11 rfl) ?_
      refine lv_iconst (v := 5) hx hb dL_law_224 (by decide) ?_
      refine lv_icmp_ge (tgt := 233) hx hb dL_law_225 (by decide) (fun hq137 => ?_) (fun hq137 => ?_)
      · have hm := (if_pos hq137).symm.trans hm
        refine lv_iconst (v := 5) hx hb dL_law_233 (by decide) ?_
        exact LJ_234 C0 B k77 jk77 v1 v2 v3 v4 v5 v6 v7 v8 v9 v10 v13 v16 v17 v3 v6 1 (v9 >>> (10 &&& 31)) 5 G1 M hv1 hv3 hv4 hv5 hv3 h7 A1 hm cells slots ⟨by omega, by omega⟩ H locs hw ls (lv_sub hl [0, 1, 2, 3, 4, 5, 6, 7, 8, 9, 10, 13, 15, 16] rfl)
      · have hm := (if_neg hq137).symm.trans hm
        refine lv_iload hx hb dL_law_228 (lv_at hl 11 rfl) ?_
        refine lv_goto (tgt := 234) hx hb dL_law_230 (by decide) ?_
        exact LJ_234 C0 B k77 jk77 v1 v2 v3 v4 v5 v6 v7 v8 v9 v10 v13 v16 v17 v3 v6 1 (v9 >>> (10 &&& 31)) v11 G1 M hv1 hv3 hv4 hv5 hv3 h7 A1 hm cells slots ⟨by omega, by omega⟩ H locs hw ls (lv_sub hl [0, 1, 2, 3, 4, 5, 6, 7, 8, 9, 10, 13, 15, 16] rfl)
set_option maxHeartbeats 4000000 in
set_option maxRecDepth 100000 in
theorem LJ_160 (C0 : LC p l s m meth c b L xs D cy) : ∀ (B : Nat) (k77 : Nat → Int32 → Nat → Nat → Nat → Int32 → Int32 → Int32 → (Nat → Bool) → Mem → Option Int32) (jk77 : ∀ (v1 : Nat) (v2 : Int32) (v3 : Nat) (v4 : Nat) (v5 : Nat) (v6 : Int32) (v7 : Int32) (v8 : Int32) (G1 : Nat → Bool) (M : Mem) (hv1 : TT G1 4 v1) (hv3 : TR G1 4 v3) (hv4 : TR G1 4 v4) (hv5 : TR G1 8 v5) (h7 : G1 7 = true) (A1 : Nat → Nat), k77 v1 v2 v3 v4 v5 v6 v7 v8 G1 M = some 1 → ∀ (cells slots : Nat), cells + 50 * (B) ≤ 600130 ∧ slots + 3520 * (B) ≤ 7301080 → ∀ (H : Heap) (locs : List Loc), WD D cy (LAs s) A1 s.heap G1 M H locs → ∀ ls : Array Slot, lv_has ls 21 [(0, .ref b), (1, .ref (A1 v1)), (2, .int v2), (3, .ref (A1 v3)), (4, .ref (A1 v4)), (5, .ref (A1 v5)), (6, .int v6), (7, .int v7), (8, .int v8)] → WL p l e s m below meth c b H locs cells slots (F0 m 77 ls [])) (v1 : Nat) (v2 : Int32) (v3 : Nat) (v4 : Nat) (v5 : Nat) (v6 : Int32) (v7 : Int32) (v8 : Int32) (v9 : Int32) (v10 : Int32) (v11 : Int32) (u0 : Int32) (G1 : Nat → Bool) (M : Mem) (hv1 : TT G1 4 v1) (hv3 : TR G1 4 v3) (hv4 : TR G1 4 v4) (hv5 : TR G1 8 v5) (h7 : G1 7 = true) (A1 : Nat → Nat), m_L_law_b160 L xs k77 v1 v2 v3 v4 v5 v6 v7 v8 v9 v10 v11 u0 G1 M = some 1 → ∀ (cells slots : Nat), cells + 50 * (B + 1) ≤ 600130 ∧ slots + 3520 * (B + 1) ≤ 7301080 → ∀ (H : Heap) (locs : List Loc), WD D cy (LAs s) A1 s.heap G1 M H locs → ∀ ls : Array Slot, lv_has ls 21 [(0, .ref b), (1, .ref (A1 v1)), (2, .int v2), (3, .ref (A1 v3)), (4, .ref (A1 v4)), (5, .ref (A1 v5)), (6, .int v6), (7, .int v7), (8, .int v8), (9, .int v9), (10, .int v10), (11, .int v11)] → WL p l e s m below meth c b H locs cells slots (F0 m 160 ls [.int u0]) := by
  obtain ⟨hx, hb, hr, hlocks, hml, hown, hts, hK, hX, hbl, hL⟩ := id C0
  have hA : ∀ q : Nat, s.heap.size ≤ q → LAs s q := fun _ h => h
  intro B k77 jk77 v1 v2 v3 v4 v5 v6 v7 v8 v9 v10 v11 u0 G1 M hv1 hv3 hv4 hv5 h7 A1 hm cells slots hcs H locs hw ls hl
  unfold m_L_law_b160 at hm
  refine lv_istore (lv' := [(12, .int u0), (0, .ref b), (1, .ref (A1 v1)), (2, .int v2), (3, .ref (A1 v3)), (4, .ref (A1 v4)), (5, .ref (A1 v5)), (6, .int v6), (7, .int v7), (8, .int v8), (9, .int v9), (10, .int v10), (11, .int v11)]) hx hb dL_law_160 hl (by decide) rfl (fun ls hl => ?_)
  refine lv_aload_n hx hb dL_law_162 rfl (lv_at hl 2 rfl) ?_
  refine lv_iload_n hx hb dL_law_163 rfl (lv_at hl 3 rfl) ?_
  refine lv_iload hx hb dL_law_164 (lv_at hl 7 rfl) ?_
  obtain ⟨z15, e16, hm⟩ := bd_some hm
  refine kl hw hA (rS hx hb hml hts hown hK hw (c_L_tale l hv1 e16) (mkS 3 hts k_ml_RL_88 k_st_yL_tale k_in_RL k_co_yL_tale hd_L_tale ⟨Nat.le_of_ble_eq_true rfl, Nat.le_of_ble_eq_true rfl⟩) rfl hl.1 rfl (Nat.le_of_ble_eq_true rfl) dL_law_166 ⟨show cells + 0 ≤ 600130 by omega, show slots + 0 ≤ 7301080 by omega⟩) (fun H locs hw => ?_)
  refine lv_lstore (lv' := [(13, .long z15), (12, .int u0), (0, .ref b), (1, .ref (A1 v1)), (2, .int v2), (3, .ref (A1 v3)), (4, .ref (A1 v4)), (5, .ref (A1 v5)), (6, .int v6), (7, .int v7), (8, .int v8), (9, .int v9), (10, .int v10), (11, .int v11)]) hx hb dL_law_169 hl (by decide) rfl (fun ls hl => ?_)
  refine lv_iload hx hb dL_law_171 (lv_at hl 11 rfl) ?_
  refine lv_bipush (v := 15) hx hb dL_law_173 (by decide) ?_
  refine lv_iand hx hb dL_law_175 ?_
  refine lv_istore (lv' := [(15, .int (v9 &&& 15)), (13, .long z15), (12, .int u0), (0, .ref b), (1, .ref (A1 v1)), (2, .int v2), (3, .ref (A1 v3)), (4, .ref (A1 v4)), (5, .ref (A1 v5)), (6, .int v6), (7, .int v7), (8, .int v8), (9, .int v9), (10, .int v10), (11, .int v11)]) hx hb dL_law_176 hl (by decide) rfl (fun ls hl => ?_)
  refine lv_iload hx hb dL_law_178 (lv_at hl 9 rfl) ?_
  refine lv_istore (lv' := [(16, .int v6), (15, .int (v9 &&& 15)), (13, .long z15), (12, .int u0), (0, .ref b), (1, .ref (A1 v1)), (2, .int v2), (3, .ref (A1 v3)), (4, .ref (A1 v4)), (5, .ref (A1 v5)), (6, .int v6), (7, .int v7), (8, .int v8), (9, .int v9), (10, .int v10), (11, .int v11)]) hx hb dL_law_180 hl (by decide) rfl (fun ls hl => ?_)
  refine lv_aload hx hb dL_law_182 (lv_at hl 9 rfl) ?_
  refine lv_iload hx hb dL_law_184 (lv_at hl 14 rfl) ?_
  obtain ⟨hi17, hm⟩ := ck_some hm
  refine gI hx hb hK hw hv5 hi17 dL_law_186 ?_
  refine lv_istore (lv' := [(17, .int (gR M v5 (cl v10))), (16, .int v6), (15, .int (v9 &&& 15)), (13, .long z15), (12, .int u0), (0, .ref b), (1, .ref (A1 v1)), (2, .int v2), (3, .ref (A1 v3)), (4, .ref (A1 v4)), (5, .ref (A1 v5)), (6, .int v6), (7, .int v7), (8, .int v8), (9, .int v9), (10, .int v10), (11, .int v11)]) hx hb dL_law_187 hl (by decide) rfl (fun ls hl => ?_)
  refine lv_iconst (v := 1) hx hb dL_law_189 (by decide) ?_
  refine lv_istore (lv' := [(18, .int 1), (17, .int (gR M v5 (cl v10))), (16, .int v6), (15, .int (v9 &&& 15)), (13, .long z15), (12, .int u0), (0, .ref b), (1, .ref (A1 v1)), (2, .int v2), (3, .ref (A1 v3)), (4, .ref (A1 v4)), (5, .ref (A1 v5)), (6, .int v6), (7, .int v7), (8, .int v8), (9, .int v9), (10, .int v10), (11, .int v11)]) hx hb dL_law_190 hl (by decide) rfl (fun ls hl => ?_)
  refine lv_iload hx hb dL_law_192 (lv_at hl 3 rfl) ?_
  refine lv_if_eq (tgt := 202) hx hb dL_law_194 (by decide) (fun hq18 => ?_) (fun hq18 => ?_)
  · have hm := (if_pos hq18).symm.trans hm
    exact LJ_202 C0 B k77 jk77 v1 v2 v3 v4 v5 v6 v7 v8 v9 v10 v11 u0 z15 (v9 &&& 15) v6 (gR M v5 (cl v10)) G1 M hv1 hv3 hv4 hv5 h7 A1 hm cells slots ⟨by omega, by omega⟩ H locs hw ls (lv_sub hl [6, 7, 8, 9, 10, 11, 12, 13, 14, 15, 16, 17, 5, 4, 3, 2, 1] rfl)
  · have hm := (if_neg hq18).symm.trans hm
    refine lv_iload hx hb dL_law_197 (lv_at hl 12 rfl) ?_
    refine lv_if_ne (tgt := 308) hx hb dL_law_199 (by decide) (fun hq155 => ?_) (fun hq155 => ?_)
    · have hm := (if_neg hq155).symm.trans hm
      exact LJ_308 C0 B k77 jk77 v1 v2 v3 v4 v5 v6 v7 v8 v9 v10 u0 z15 (v9 &&& 15) v6 (gR M v5 (cl v10)) G1 M hv1 hv3 hv4 hv5 h7 A1 hm cells slots ⟨by omega, by omega⟩ H locs hw ls (lv_sub hl [6, 7, 8, 9, 10, 11, 12, 13, 14, 15, 16, 5, 4, 3, 2, 1] rfl)
    · have hm := (if_pos hq155).symm.trans hm
      exact LJ_202 C0 B k77 jk77 v1 v2 v3 v4 v5 v6 v7 v8 v9 v10 v11 u0 z15 (v9 &&& 15) v6 (gR M v5 (cl v10)) G1 M hv1 hv3 hv4 hv5 h7 A1 hm cells slots ⟨by omega, by omega⟩ H locs hw ls (lv_sub hl [6, 7, 8, 9, 10, 11, 12, 13, 14, 15, 16, 17, 5, 4, 3, 2, 1] rfl)
set_option maxHeartbeats 4000000 in
set_option maxRecDepth 100000 in
theorem LJ_110 (C0 : LC p l s m meth c b L xs D cy) : ∀ (B : Nat) (k77 : Nat → Int32 → Nat → Nat → Nat → Int32 → Int32 → Int32 → (Nat → Bool) → Mem → Option Int32) (jk77 : ∀ (v1 : Nat) (v2 : Int32) (v3 : Nat) (v4 : Nat) (v5 : Nat) (v6 : Int32) (v7 : Int32) (v8 : Int32) (G1 : Nat → Bool) (M : Mem) (hv1 : TT G1 4 v1) (hv3 : TR G1 4 v3) (hv4 : TR G1 4 v4) (hv5 : TR G1 8 v5) (h7 : G1 7 = true) (A1 : Nat → Nat), k77 v1 v2 v3 v4 v5 v6 v7 v8 G1 M = some 1 → ∀ (cells slots : Nat), cells + 50 * (B) ≤ 600130 ∧ slots + 3520 * (B) ≤ 7301080 → ∀ (H : Heap) (locs : List Loc), WD D cy (LAs s) A1 s.heap G1 M H locs → ∀ ls : Array Slot, lv_has ls 21 [(0, .ref b), (1, .ref (A1 v1)), (2, .int v2), (3, .ref (A1 v3)), (4, .ref (A1 v4)), (5, .ref (A1 v5)), (6, .int v6), (7, .int v7), (8, .int v8)] → WL p l e s m below meth c b H locs cells slots (F0 m 77 ls [])) (n : Nat) (v1 : Nat) (v2 : Int32) (v3 : Nat) (v4 : Nat) (v5 : Nat) (v6 : Int32) (v7 : Int32) (v8 : Int32) (v9 : Int32) (v10 : Int32) (v11 : Int32) (v12 : Int32) (G1 : Nat → Bool) (M : Mem) (hv1 : TT G1 4 v1) (hv3 : TR G1 4 v3) (hv4 : TR G1 4 v4) (hv5 : TR G1 8 v5) (h7 : G1 7 = true) (A1 : Nat → Nat), m_L_law_L110 L xs k77 n v1 v2 v3 v4 v5 v6 v7 v8 v9 v10 v11 v12 G1 M = some 1 → ∀ (cells slots : Nat), cells + 50 * (B + 1) ≤ 600130 ∧ slots + 3520 * (B + 1) ≤ 7301080 → ∀ (H : Heap) (locs : List Loc), WD D cy (LAs s) A1 s.heap G1 M H locs → ∀ ls : Array Slot, lv_has ls 21 [(0, .ref b), (1, .ref (A1 v1)), (2, .int v2), (3, .ref (A1 v3)), (4, .ref (A1 v4)), (5, .ref (A1 v5)), (6, .int v6), (7, .int v7), (8, .int v8), (9, .int v9), (10, .int v10), (11, .int v11), (12, .int v12)] → WL p l e s m below meth c b H locs cells slots (F0 m 110 ls []) := by
  obtain ⟨hx, hb, hr, hlocks, hml, hown, hts, hK, hX, hbl, hL⟩ := id C0
  have hA : ∀ q : Nat, s.heap.size ≤ q → LAs s q := fun _ h => h
  intro B k77 jk77 n
  induction n with
  | zero =>
    intro v1 v2 v3 v4 v5 v6 v7 v8 v9 v10 v11 v12 G1 M hv1 hv3 hv4 hv5 h7 A1 hm
    cases (show (none : Option Int32) = some 1 from hm)
  | succ n ih =>
    intro v1 v2 v3 v4 v5 v6 v7 v8 v9 v10 v11 v12 G1 M hv1 hv3 hv4 hv5 h7 A1 hm cells slots hcs H locs hw ls hl
    have hm := (m_L_law_L110_s L xs k77 n v1 v2 v3 v4 v5 v6 v7 v8 v9 v10 v11 v12 G1 M).symm.trans hm
    refine lv_iload hx hb dL_law_110 (lv_at hl 12 rfl) ?_
    refine lv_iload_n hx hb dL_law_112 rfl (lv_at hl 2 rfl) ?_
    refine lv_icmp_ge (tgt := 141) hx hb dL_law_113 (by decide) (fun hq11 => ?_) (fun hq11 => ?_)
    · have hm := (if_pos hq11).symm.trans hm
      refine lv_iload hx hb dL_law_141 (lv_at hl 6 rfl) ?_
      refine lv_if_ne (tgt := 150) hx hb dL_law_143 (by decide) (fun hq12 => ?_) (fun hq12 => ?_)
      · have hm := (if_neg hq12).symm.trans hm
        refine lv_iload hx hb dL_law_150 (lv_at hl 9 rfl) ?_
        refine lv_bipush (v := 8) hx hb dL_law_152 (by decide) ?_
        refine lv_ishr hx hb dL_law_154 ?_
        refine lv_iload hx hb dL_law_155 (lv_at hl 6 rfl) ?_
        obtain ⟨z13, e14, hm⟩ := bd_some hm
        refine ki hw hA (rS hx hb hml hts hown hK hw (c_L_low l e14) (mkS 2 hts k_ml_RL_82 k_st_yL_low k_in_RL k_co_yL_low hd_L_low ⟨Nat.le_of_ble_eq_true rfl, Nat.le_of_ble_eq_true rfl⟩) rfl hl.1 rfl (Nat.le_of_ble_eq_true rfl) dL_law_157 ⟨show cells + 0 ≤ 600130 by omega, show slots + 0 ≤ 7301080 by omega⟩) (fun H locs hw => ?_)
        exact LJ_160 C0 B k77 jk77 v1 v2 v3 v4 v5 v6 v7 v8 v9 v10 v11 z13 G1 M hv1 hv3 hv4 hv5 h7 A1 hm cells slots ⟨by omega, by omega⟩ H locs hw ls (lv_sub hl [0, 1, 2, 3, 4, 5, 6, 7, 8, 9, 10, 11] rfl)
      · have hm := (if_pos hq12).symm.trans hm
        refine lv_iconst (v := 0) hx hb dL_law_146 (by decide) ?_
        refine lv_goto (tgt := 160) hx hb dL_law_147 (by decide) ?_
        exact LJ_160 C0 B k77 jk77 v1 v2 v3 v4 v5 v6 v7 v8 v9 v10 v11 0 G1 M hv1 hv3 hv4 hv5 h7 A1 hm cells slots ⟨by omega, by omega⟩ H locs hw ls (lv_sub hl [0, 1, 2, 3, 4, 5, 6, 7, 8, 9, 10, 11] rfl)
    · have hm := (if_neg hq11).symm.trans hm
      refine lv_iload hx hb dL_law_116 (lv_at hl 11 rfl) ?_
      refine lv_aload hx hb dL_law_118 (lv_at hl 5 rfl) ?_
      refine lv_iload hx hb dL_law_120 (lv_at hl 12 rfl) ?_
      obtain ⟨hi156, hm⟩ := ck_some hm
      refine gI hx hb hK hw hv5 hi156 dL_law_122 ?_
      refine lv_iconst (v := 1) hx hb dL_law_123 (by decide) ?_
      refine lv_icmp_ne (tgt := 131) hx hb dL_law_124 (by decide) (fun hq157 => ?_) (fun hq157 => ?_)
      · have hm := (if_neg hq157).symm.trans hm
        refine lv_iconst (v := 1) hx hb dL_law_131 (by decide) ?_
        refine lv_iadd hx hb dL_law_132 ?_
        refine lv_istore (lv' := [(11, .int (v11 + 1)), (0, .ref b), (1, .ref (A1 v1)), (2, .int v2), (3, .ref (A1 v3)), (4, .ref (A1 v4)), (5, .ref (A1 v5)), (6, .int v6), (7, .int v7), (8, .int v8), (9, .int v9), (10, .int v10), (12, .int v12)]) hx hb dL_law_133 hl (by decide) rfl (fun ls hl => ?_)
        refine lv_iinc (v := (v12 + 1)) (lv' := [(12, .int (v12 + 1)), (11, .int (v11 + 1)), (0, .ref b), (1, .ref (A1 v1)), (2, .int v2), (3, .ref (A1 v3)), (4, .ref (A1 v4)), (5, .ref (A1 v5)), (6, .int v6), (7, .int v7), (8, .int v8), (9, .int v9), (10, .int v10)]) hx hb dL_law_135 hl (k := 12) rfl rfl (by decide) rfl (fun ls hl => ?_)
        refine lv_goto (tgt := 110) hx hb dL_law_138 (by decide) ?_
        exact ih v1 v2 v3 v4 v5 v6 v7 v8 v9 v10 (v11 + 1) (v12 + 1) G1 M hv1 hv3 hv4 hv5 h7 A1 hm cells slots ⟨by omega, by omega⟩ H locs hw ls (lv_sub hl [2, 3, 4, 5, 6, 7, 8, 9, 10, 11, 12, 1, 0] rfl)
      · have hm := (if_pos hq157).symm.trans hm
        refine lv_iconst (v := 0) hx hb dL_law_127 (by decide) ?_
        refine lv_goto (tgt := 132) hx hb dL_law_128 (by decide) ?_
        refine lv_iadd hx hb dL_law_132 ?_
        refine lv_istore (lv' := [(11, .int (v11 + 0)), (0, .ref b), (1, .ref (A1 v1)), (2, .int v2), (3, .ref (A1 v3)), (4, .ref (A1 v4)), (5, .ref (A1 v5)), (6, .int v6), (7, .int v7), (8, .int v8), (9, .int v9), (10, .int v10), (12, .int v12)]) hx hb dL_law_133 hl (by decide) rfl (fun ls hl => ?_)
        refine lv_iinc (v := (v12 + 1)) (lv' := [(12, .int (v12 + 1)), (11, .int (v11 + 0)), (0, .ref b), (1, .ref (A1 v1)), (2, .int v2), (3, .ref (A1 v3)), (4, .ref (A1 v4)), (5, .ref (A1 v5)), (6, .int v6), (7, .int v7), (8, .int v8), (9, .int v9), (10, .int v10)]) hx hb dL_law_135 hl (k := 12) rfl rfl (by decide) rfl (fun ls hl => ?_)
        refine lv_goto (tgt := 110) hx hb dL_law_138 (by decide) ?_
        exact ih v1 v2 v3 v4 v5 v6 v7 v8 v9 v10 (v11 + 0) (v12 + 1) G1 M hv1 hv3 hv4 hv5 h7 A1 hm cells slots ⟨by omega, by omega⟩ H locs hw ls (lv_sub hl [2, 3, 4, 5, 6, 7, 8, 9, 10, 11, 12, 1, 0] rfl)
set_option maxHeartbeats 4000000 in
set_option maxRecDepth 100000 in
theorem LJ_77 (C0 : LC p l s m meth c b L xs D cy) : ∀  (n : Nat) (v1 : Nat) (v2 : Int32) (v3 : Nat) (v4 : Nat) (v5 : Nat) (v6 : Int32) (v7 : Int32) (v8 : Int32) (G1 : Nat → Bool) (M : Mem) (hv1 : TT G1 4 v1) (hv3 : TR G1 4 v3) (hv4 : TR G1 4 v4) (hv5 : TR G1 8 v5) (h7 : G1 7 = true) (A1 : Nat → Nat), m_L_law_L77 L xs n v1 v2 v3 v4 v5 v6 v7 v8 G1 M = some 1 → ∀ (cells slots : Nat), cells + 50 * (n + 1) ≤ 600130 ∧ slots + 3520 * (n + 1) ≤ 7301080 → ∀ (H : Heap) (locs : List Loc), WD D cy (LAs s) A1 s.heap G1 M H locs → ∀ ls : Array Slot, lv_has ls 21 [(0, .ref b), (1, .ref (A1 v1)), (2, .int v2), (3, .ref (A1 v3)), (4, .ref (A1 v4)), (5, .ref (A1 v5)), (6, .int v6), (7, .int v7), (8, .int v8)] → WL p l e s m below meth c b H locs cells slots (F0 m 77 ls []) := by
  obtain ⟨hx, hb, hr, hlocks, hml, hown, hts, hK, hX, hbl, hL⟩ := id C0
  have hA : ∀ q : Nat, s.heap.size ≤ q → LAs s q := fun _ h => h
  intro n
  induction n with
  | zero =>
    intro v1 v2 v3 v4 v5 v6 v7 v8 G1 M hv1 hv3 hv4 hv5 h7 A1 hm
    cases (show (none : Option Int32) = some 1 from hm)
  | succ n ih =>
    intro v1 v2 v3 v4 v5 v6 v7 v8 G1 M hv1 hv3 hv4 hv5 h7 A1 hm cells slots hcs H locs hw ls hl
    have hm := (m_L_law_L77_s L xs n v1 v2 v3 v4 v5 v6 v7 v8 G1 M).symm.trans hm
    refine lv_iload hx hb dL_law_77 (lv_at hl 8 rfl) ?_
    refine lv_bipush (v := 48) hx hb dL_law_79 (by decide) ?_
    refine lv_icmp_ge (tgt := 755) hx hb dL_law_81 (by decide) (fun hq6 => ?_) (fun hq6 => ?_)
    · have hm := (if_pos hq6).symm.trans hm
      refine lv_aload_n hx hb dL_law_755 rfl (lv_at hl 1 rfl) ?_
      refine ki hw hA (rV hx hb hml hts hown hK hw (c_X5_rejections l hv1) hv1 (by decide) rfl (mkV 0 hts k_ml_RL_24 k_im_yX5_rejections k_se_yX5_rejections k_in_RX5 k_co_yX5_rejections hd_X5_rejections ⟨Nat.le_of_ble_eq_true rfl, Nat.le_of_ble_eq_true rfl⟩) rfl hl.1 rfl (Nat.le_of_ble_eq_true rfl) dL_law_756 ⟨show cells + 0 ≤ 600130 by omega, show slots + 0 ≤ 7301080 by omega⟩) (fun H locs hw => ?_)
      refine lv_if_lt (tgt := 766) hx hb dL_law_759 (by decide) (fun hq7 => ?_) (fun hq7 => ?_)
      · have hm := (if_pos hq7).symm.trans hm
        refine lv_iconst (v := 0) hx hb dL_law_766 (by decide) ?_
        exact absurd (Option.some.inj hm) (by decide)
      · have hm := (if_neg hq7).symm.trans hm
        refine lv_iconst (v := 1) hx hb dL_law_762 (by decide) ?_
        refine lv_goto (tgt := 767) hx hb dL_law_763 (by decide) ?_
        refine va_forget (fun q hq => hw.2.2.2.2 q hq) ?_
        refine W.widen (show cells ≤ 600130 by omega) (show slots ≤ 7301080 by omega) ?_
        exact lw_ret hx hb hr hlocks dL_law_767
    · have hm := (if_neg hq6).symm.trans hm
      refine lv_aload_n hx hb dL_law_84 rfl (lv_at hl 0 rfl) ?_
      refine lv_iconst (v := 1) hx hb dL_law_85 (by decide) ?_
      refine lv_iload hx hb dL_law_86 (lv_at hl 8 rfl) ?_
      refine lv_iadd hx hb dL_law_88 ?_
      obtain ⟨hk8, hm⟩ := ck_some hm
      refine ki hw hA (rC hx hb hml hts hown hK hX hbl hw (c_L_cell l (show L < 2147483648 by omega) hk8) (mkS 2 hts k_ml_RL_78 k_st_yL_cell k_in_RL k_co_yL_cell hd_L_cell ⟨Nat.le_of_ble_eq_true rfl, Nat.le_of_ble_eq_true rfl⟩) rfl hl.1 rfl (Nat.le_of_ble_eq_true rfl) dL_law_89 ⟨show cells + 0 ≤ 600130 by omega, show slots + 0 ≤ 7301080 by omega⟩) (fun H locs hw => ?_)
      refine lv_istore (lv' := [(9, .int (cv xs L (1 + v8))), (0, .ref b), (1, .ref (A1 v1)), (2, .int v2), (3, .ref (A1 v3)), (4, .ref (A1 v4)), (5, .ref (A1 v5)), (6, .int v6), (7, .int v7), (8, .int v8)]) hx hb dL_law_92 hl (by decide) rfl (fun ls hl => ?_)
      refine lv_iload hx hb dL_law_94 (lv_at hl 0 rfl) ?_
      refine lv_iconst (v := 4) hx hb dL_law_96 (by decide) ?_
      refine lv_ishr hx hb dL_law_97 ?_
      refine lv_iload_n hx hb dL_law_98 rfl (lv_at hl 3 rfl) ?_
      obtain ⟨z9, e10, hm⟩ := bd_some hm
      refine ki hw hA (rS hx hb hml hts hown hK hw (c_L_low l e10) (mkS 2 hts k_ml_RL_82 k_st_yL_low k_in_RL k_co_yL_low hd_L_low ⟨Nat.le_of_ble_eq_true rfl, Nat.le_of_ble_eq_true rfl⟩) rfl hl.1 rfl (Nat.le_of_ble_eq_true rfl) dL_law_99 ⟨show cells + 0 ≤ 600130 by omega, show slots + 0 ≤ 7301080 by omega⟩) (fun H locs hw => ?_)
      refine lv_istore (lv' := [(10, .int z9), (9, .int (cv xs L (1 + v8))), (0, .ref b), (1, .ref (A1 v1)), (2, .int v2), (3, .ref (A1 v3)), (4, .ref (A1 v4)), (5, .ref (A1 v5)), (6, .int v6), (7, .int v7), (8, .int v8)]) hx hb dL_law_102 hl (by decide) rfl (fun ls hl => ?_)
      refine lv_iconst (v := 0) hx hb dL_law_104 (by decide) ?_
      refine lv_istore (lv' := [(11, .int 0), (10, .int z9), (9, .int (cv xs L (1 + v8))), (0, .ref b), (1, .ref (A1 v1)), (2, .int v2), (3, .ref (A1 v3)), (4, .ref (A1 v4)), (5, .ref (A1 v5)), (6, .int v6), (7, .int v7), (8, .int v8)]) hx hb dL_law_105 hl (by decide) rfl (fun ls hl => ?_)
      refine lv_iconst (v := 0) hx hb dL_law_107 (by decide) ?_
      refine lv_istore (lv' := [(12, .int 0), (11, .int 0), (10, .int z9), (9, .int (cv xs L (1 + v8))), (0, .ref b), (1, .ref (A1 v1)), (2, .int v2), (3, .ref (A1 v3)), (4, .ref (A1 v4)), (5, .ref (A1 v5)), (6, .int v6), (7, .int v7), (8, .int v8)]) hx hb dL_law_108 hl (by decide) rfl (fun ls hl => ?_)
      exact LJ_110 C0 (n + 1) (fun w0 w1 w2 w3 w4 w5 w6 w7 w8 w9 => m_L_law_L77 L xs n w0 w1 w2 w3 w4 w5 w6 w7 w8 w9) (fun w0 w1 w2 w3 w4 w5 w6 w7 w8 w9 f0 f1 f2 f3 f4 A9 hh cells slots hcs H locs hw ls hl => ih w0 w1 w2 w3 w4 w5 w6 w7 w8 w9 f0 f1 f2 f3 f4 A9 hh cells slots hcs H locs hw ls hl) fuel v1 v2 v3 v4 v5 v6 v7 v8 (cv xs L (1 + v8)) z9 0 0 G1 M hv1 hv3 hv4 hv5 h7 A1 hm cells slots ⟨by omega, by omega⟩ H locs hw ls (lv_sub hl [4, 5, 6, 7, 8, 9, 10, 11, 12, 3, 2, 1, 0] rfl)
set_option maxHeartbeats 4000000 in
set_option maxRecDepth 100000 in
theorem LJ_23 (C0 : LC p l s m meth c b L xs D cy) : ∀  (n : Nat) (v1 : Nat) (v2 : Int32) (v3 : Int32) (G1 : Nat → Bool) (M : Mem) (hv1 : TT G1 4 v1) (A1 : Nat → Nat), m_L_law_L23 L xs n v1 v2 v3 G1 M = some 1 → ∀ (cells slots : Nat), cells + 50 * (n + 60) ≤ 600130 ∧ slots + 3520 * (n + 60) ≤ 7301080 → ∀ (H : Heap) (locs : List Loc), WD D cy (LAs s) A1 s.heap G1 M H locs → ∀ ls : Array Slot, lv_has ls 21 [(0, .ref b), (1, .ref (A1 v1)), (2, .int v2), (3, .int v3)] → WL p l e s m below meth c b H locs cells slots (F0 m 23 ls []) := by
  obtain ⟨hx, hb, hr, hlocks, hml, hown, hts, hK, hX, hbl, hL⟩ := id C0
  have hA : ∀ q : Nat, s.heap.size ≤ q → LAs s q := fun _ h => h
  intro n
  induction n with
  | zero =>
    intro v1 v2 v3 G1 M hv1 A1 hm
    cases (show (none : Option Int32) = some 1 from hm)
  | succ n ih =>
    intro v1 v2 v3 G1 M hv1 A1 hm cells slots hcs H locs hw ls hl
    have hm := (m_L_law_L23_s L xs n v1 v2 v3 G1 M).symm.trans hm
    refine lv_iload_n hx hb dL_law_23 rfl (lv_at hl 3 rfl) ?_
    refine lv_iload_n hx hb dL_law_24 rfl (lv_at hl 2 rfl) ?_
    refine lv_icmp_ge (tgt := 44) hx hb dL_law_25 (by decide) (fun hq4 => ?_) (fun hq4 => ?_)
    · have hm := (if_pos hq4).symm.trans hm
      obtain ⟨h7n, hm⟩ := ck_some hm
      refine law_rows C0 hv1.2 h7n hw (lv_sub hl [0, 1, 2] rfl) (show cells + 3 ≤ 600130 ∧ slots + 16 ≤ 7301080 by omega) (fun A2 hAA h7 H locs ls hw hl => ?_)
      have hv1 := TT.mono hv1 (fun c hc => (hAA c hc).2)
      refine lv_iconst (v := 0) hx hb dL_law_59 (by decide) ?_
      refine lv_istore (lv' := [(6, .int 0), (5, .ref (A2 5)), (4, .ref (A2 4)), (3, .ref (A2 3)), (0, .ref b), (1, .ref (A2 v1)), (2, .int v2)]) hx hb dL_law_60 hl (by decide) rfl (fun ls hl => ?_)
      refine lv_iload_n hx hb dL_law_62 rfl (lv_at hl 6 rfl) ?_
      refine lv_iconst (v := 4) hx hb dL_law_63 (by decide) ?_
      refine lv_icmp_le (tgt := 71) hx hb dL_law_64 (by decide) (fun hq5 => ?_) (fun hq5 => ?_)
      · have hm := (if_pos hq5).symm.trans hm
        refine lv_iload_n hx hb dL_law_71 rfl (lv_at hl 6 rfl) ?_
        refine lv_istore (lv' := [(7, .int v2), (6, .int 0), (5, .ref (A2 5)), (4, .ref (A2 4)), (3, .ref (A2 3)), (0, .ref b), (1, .ref (A2 v1)), (2, .int v2)]) hx hb dL_law_72 hl (by decide) rfl (fun ls hl => ?_)
        refine lv_iconst (v := 0) hx hb dL_law_74 (by decide) ?_
        refine lv_istore (lv' := [(8, .int 0), (7, .int v2), (6, .int 0), (5, .ref (A2 5)), (4, .ref (A2 4)), (3, .ref (A2 3)), (0, .ref b), (1, .ref (A2 v1)), (2, .int v2)]) hx hb dL_law_75 hl (by decide) rfl (fun ls hl => ?_)
        exact LJ_77 C0 49 v1 v2 3 4 5 0 v2 0 (va_up G1 7 true) (inA M) hv1 (la_z h7) (la_c h7) (la_d h7) h7 A2 hm (cells + 3) (slots + 16) ⟨by omega, by omega⟩ H locs hw ls (lv_sub hl [6, 7, 8, 5, 4, 3, 2, 1, 0] rfl)
      · have hm := (if_neg hq5).symm.trans hm
        refine lv_iconst (v := 4) hx hb dL_law_67 (by decide) ?_
        refine lv_goto (tgt := 72) hx hb dL_law_68 (by decide) ?_
        refine lv_istore (lv' := [(7, .int 4), (6, .int 0), (5, .ref (A2 5)), (4, .ref (A2 4)), (3, .ref (A2 3)), (0, .ref b), (1, .ref (A2 v1)), (2, .int v2)]) hx hb dL_law_72 hl (by decide) rfl (fun ls hl => ?_)
        refine lv_iconst (v := 0) hx hb dL_law_74 (by decide) ?_
        refine lv_istore (lv' := [(8, .int 0), (7, .int 4), (6, .int 0), (5, .ref (A2 5)), (4, .ref (A2 4)), (3, .ref (A2 3)), (0, .ref b), (1, .ref (A2 v1)), (2, .int v2)]) hx hb dL_law_75 hl (by decide) rfl (fun ls hl => ?_)
        exact LJ_77 C0 49 v1 v2 3 4 5 0 4 0 (va_up G1 7 true) (inA M) hv1 (la_z h7) (la_c h7) (la_d h7) h7 A2 hm (cells + 3) (slots + 16) ⟨by omega, by omega⟩ H locs hw ls (lv_sub hl [6, 7, 8, 5, 4, 3, 2, 1, 0] rfl)
    · have hm := (if_neg hq4).symm.trans hm
      refine lv_aload_n hx hb dL_law_28 rfl (lv_at hl 1 rfl) ?_
      obtain ⟨z158, e159, hm⟩ := bd_some hm
      refine kiG hw hA (rV hx hb hml hts hown hK hw (c_X5_addNode l hv1 e159) hv1 (by decide) rfl (mkV 0 hts k_ml_RL_85 k_im_yX5_addNode k_se_yX5_addNode k_in_RX5 k_co_yX5_addNode hd_X5_addNode ⟨Nat.le_of_ble_eq_true rfl, Nat.le_of_ble_eq_true rfl⟩) rfl hl.1 rfl (Nat.le_of_ble_eq_true rfl) dL_law_29 ⟨show cells + 50 ≤ 600130 by omega, show slots + 3520 ≤ 7301080 by omega⟩) (fun A160 hAA161 H locs hw => ?_)
      have hl : lv_has ls 21 [(0, .ref b), (1, .ref (A160 v1)), (2, .int v2), (3, .int v3)] := by
        simp only [(hAA161 _ hv1.2).1]
        exact hl
      have hv1 := TT.mono hv1 (fun c hc => (hAA161 c hc).2)
      refine lv_iload_n hx hb dL_law_32 rfl (lv_at hl 3 rfl) ?_
      refine lv_icmp_eq (tgt := 38) hx hb dL_law_33 (by decide) (fun hq162 => ?_) (fun hq162 => ?_)
      · have hm := (if_pos hq162).symm.trans hm
        refine lv_iinc (v := (v3 + 1)) (lv' := [(3, .int (v3 + 1)), (0, .ref b), (1, .ref (A160 v1)), (2, .int v2)]) hx hb dL_law_38 hl (k := 3) rfl rfl (by decide) rfl (fun ls hl => ?_)
        refine lv_goto (tgt := 23) hx hb dL_law_41 (by decide) ?_
        exact ih v1 v2 (v3 + 1) z158.2.1 z158.2.2 hv1 A160 hm (cells + 50) (slots + 3520) ⟨by omega, by omega⟩ H locs hw ls (lv_sub hl [1, 2, 3, 0] rfl)
      · have hm := (if_neg hq162).symm.trans hm
        refine lv_iconst (v := 0) hx hb dL_law_36 (by decide) ?_
        exact absurd (Option.some.inj hm) (by decide)
set_option maxHeartbeats 4000000 in
set_option maxRecDepth 100000 in
theorem LJ_8 (C0 : LC p l s m meth c b L xs D cy) : ∀ (v1 : Nat) (G1 : Nat → Bool) (M : Mem) (hv1 : TT G1 4 v1) (A1 : Nat → Nat), m_L_law L xs v1 G1 M = some 1 → ∀ (cells slots : Nat), cells + 50 * 69 ≤ 600130 ∧ slots + 3520 * 69 ≤ 7301080 → ∀ (H : Heap) (locs : List Loc), WD D cy (LAs s) A1 s.heap G1 M H locs → ∀ ls : Array Slot, lv_has ls 21 [(0, .ref b), (1, .ref (A1 v1))] → WL p l e s m below meth c b H locs cells slots (F0 m 8 ls []) := by
  obtain ⟨hx, hb, hr, hlocks, hml, hown, hts, hK, hX, hbl, hL⟩ := id C0
  have hA : ∀ q : Nat, s.heap.size ≤ q → LAs s q := fun _ h => h
  intro v1 G1 M hv1 A1 hm cells slots hcs H locs hw ls hl
  unfold m_L_law at hm
  refine lv_iconst (v := 2) hx hb dL_law_8 (by decide) ?_
  refine lv_aload_n hx hb dL_law_9 rfl (lv_at hl 0 rfl) ?_
  refine lv_iconst (v := 0) hx hb dL_law_10 (by decide) ?_
  obtain ⟨hk1, hm⟩ := ck_some hm
  refine ki hw hA (rC hx hb hml hts hown hK hX hbl hw (c_L_cell l (show L < 2147483648 by omega) hk1) (mkS 2 hts k_ml_RL_78 k_st_yL_cell k_in_RL k_co_yL_cell hd_L_cell ⟨Nat.le_of_ble_eq_true rfl, Nat.le_of_ble_eq_true rfl⟩) rfl hl.1 rfl (Nat.le_of_ble_eq_true rfl) dL_law_11 ⟨show cells + 0 ≤ 600130 by omega, show slots + 0 ≤ 7301080 by omega⟩) (fun H locs hw => ?_)
  refine lv_bipush (v := 6) hx hb dL_law_14 (by decide) ?_
  obtain ⟨z2, e3, hm⟩ := bd_some hm
  refine ki hw hA (rS hx hb hml hts hown hK hw (c_L_low l e3) (mkS 2 hts k_ml_RL_82 k_st_yL_low k_in_RL k_co_yL_low hd_L_low ⟨Nat.le_of_ble_eq_true rfl, Nat.le_of_ble_eq_true rfl⟩) rfl hl.1 rfl (Nat.le_of_ble_eq_true rfl) dL_law_16 ⟨show cells + 0 ≤ 600130 by omega, show slots + 0 ≤ 7301080 by omega⟩) (fun H locs hw => ?_)
  refine lv_iadd hx hb dL_law_19 ?_
  refine lv_istore_n (lv' := [(2, .int (2 + z2)), (0, .ref b), (1, .ref (A1 v1))]) hx hb dL_law_20 rfl hl (by decide) rfl (fun ls hl => ?_)
  refine lv_iconst (v := 0) hx hb dL_law_21 (by decide) ?_
  refine lv_istore_n (lv' := [(3, .int 0), (2, .int (2 + z2)), (0, .ref b), (1, .ref (A1 v1))]) hx hb dL_law_22 rfl hl (by decide) rfl (fun ls hl => ?_)
  exact LJ_23 C0 9 v1 (2 + z2) 0 G1 M hv1 A1 hm cells slots ⟨by omega, by omega⟩ H locs hw ls (lv_sub hl [2, 3, 1, 0] rfl)
end LAWW
