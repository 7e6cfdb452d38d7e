/-! the law's loop -/
section LOOP
variable {p : Program} {l : Launch} {e : Env} {s : State} {m : MethodId} {below : List Frame} {meth : Method} {c : Code} {Q : State → Prop} {D : va_G} {cy : Nat → ClassId} {b L : Nat} {xs : Nat → Int32}
theorem lst_0 {x1 x2 x3 : Int32} {G : Nat → Bool} {M : Mem} : lawStep 0 x1 x2 x3 G M = s_0 G M := rfl
theorem lst_1 {x1 x2 x3 : Int32} {G : Nat → Bool} {M : Mem} : lawStep 1 x1 x2 x3 G M = s_1 x1 G M := rfl
theorem lst_2 {x1 x2 x3 : Int32} {G : Nat → Bool} {M : Mem} : lawStep 2 x1 x2 x3 G M = s_2 x1 G M := rfl
theorem lst_3 {x1 x2 x3 : Int32} {G : Nat → Bool} {M : Mem} : lawStep 3 x1 x2 x3 G M = s_3 x1 G M := rfl
theorem lst_4 {x1 x2 x3 : Int32} {G : Nat → Bool} {M : Mem} : lawStep 4 x1 x2 x3 G M = s_4 G M := rfl
theorem lst_5 {x1 x2 x3 : Int32} {G : Nat → Bool} {M : Mem} : lawStep 5 x1 x2 x3 G M = s_5 x1 G M := rfl
theorem lst_6 {x1 x2 x3 : Int32} {G : Nat → Bool} {M : Mem} : lawStep 6 x1 x2 x3 G M = s_6 x1 G M := rfl
theorem lst_7 {x1 x2 x3 : Int32} {G : Nat → Bool} {M : Mem} : lawStep 7 x1 x2 x3 G M = s_7 x1 G M := rfl
theorem lst_8 {x1 x2 x3 : Int32} {G : Nat → Bool} {M : Mem} : lawStep 8 x1 x2 x3 G M = s_8 x1 x2 G M := rfl
theorem lst_9 {x1 x2 x3 : Int32} {G : Nat → Bool} {M : Mem} : lawStep 9 x1 x2 x3 G M = s_9 G M := rfl
theorem lst_10 {x1 x2 x3 : Int32} {G : Nat → Bool} {M : Mem} : lawStep 10 x1 x2 x3 G M = s_10 x1 x2 x3 G M := rfl
theorem lst_11 {x1 x2 x3 : Int32} {G : Nat → Bool} {M : Mem} : lawStep 11 x1 x2 x3 G M = s_11 x1 x2 G M := rfl
theorem lst_12 {x1 x2 x3 : Int32} {G : Nat → Bool} {M : Mem} : lawStep 12 x1 x2 x3 G M = s_12 x1 x2 G M := rfl
theorem lst_13 {x1 x2 x3 : Int32} {G : Nat → Bool} {M : Mem} : lawStep 13 x1 x2 x3 G M = s_13 x1 G M := rfl
theorem lst_14 {x1 x2 x3 : Int32} {G : Nat → Bool} {M : Mem} : lawStep 14 x1 x2 x3 G M = s_14 x1 G M := rfl
theorem lst_15 {x1 x2 x3 : Int32} {G : Nat → Bool} {M : Mem} : lawStep 15 x1 x2 x3 G M = s_15 x1 x2 G M := rfl
theorem lst_16 {x1 x2 x3 : Int32} {G : Nat → Bool} {M : Mem} : lawStep 16 x1 x2 x3 G M = s_16 x1 G M := rfl
theorem lst_17 {x1 x2 x3 : Int32} {G : Nat → Bool} {M : Mem} : lawStep 17 x1 x2 x3 G M = s_17 x1 G M := rfl
theorem lst_18 {x1 x2 x3 : Int32} {G : Nat → Bool} {M : Mem} : lawStep 18 x1 x2 x3 G M = s_18 x1 G M := rfl
theorem lst_19 {x1 x2 x3 : Int32} {G : Nat → Bool} {M : Mem} : lawStep 19 x1 x2 x3 G M = s_19 x1 x2 G M := rfl
theorem lst_20 {x1 x2 x3 : Int32} {G : Nat → Bool} {M : Mem} : lawStep 20 x1 x2 x3 G M = s_20 x1 x2 G M := rfl
theorem lst_21 {x1 x2 x3 : Int32} {G : Nat → Bool} {M : Mem} : lawStep 21 x1 x2 x3 G M = s_21 x1 G M := rfl
theorem lst_22 {x1 x2 x3 : Int32} {G : Nat → Bool} {M : Mem} : lawStep 22 x1 x2 x3 G M = s_22 x1 x2 G M := rfl
theorem lst_23 {x1 x2 x3 : Int32} {G : Nat → Bool} {M : Mem} : lawStep 23 x1 x2 x3 G M = s_23 x1 x2 x3 G M := rfl
theorem lst_24 {x1 x2 x3 : Int32} {G : Nat → Bool} {M : Mem} : lawStep 24 x1 x2 x3 G M = s_24 x1 G M := rfl
theorem lst_25 {x1 x2 x3 : Int32} {G : Nat → Bool} {M : Mem} : lawStep 25 x1 x2 x3 G M = s_25 G M := rfl
theorem lst_26 {x1 x2 x3 : Int32} {G : Nat → Bool} {M : Mem} : lawStep 26 x1 x2 x3 G M = s_26 G M := rfl
theorem lst_no {o x1 x2 x3 : Int32} {G : Nat → Bool} {M : Mem} (h : o.toInt < 0 ∨ 26 < o.toInt) : lawStep o x1 x2 x3 G M = some (G, M) := by
  have key : ∀ k : Int32, 0 ≤ k.toInt → k.toInt ≤ 26 → ¬ o = k := fun k h1 h2 h3 => by subst h3; omega
  unfold lawStep
  rw [if_neg (key 0 (by decide) (by decide)), if_neg (key 1 (by decide) (by decide)), if_neg (key 2 (by decide) (by decide)), if_neg (key 3 (by decide) (by decide)), if_neg (key 4 (by decide) (by decide)), if_neg (key 5 (by decide) (by decide)), if_neg (key 6 (by decide) (by decide)), if_neg (key 7 (by decide) (by decide)), if_neg (key 8 (by decide) (by decide)), if_neg (key 9 (by decide) (by decide)), if_neg (key 10 (by decide) (by decide)), if_neg (key 11 (by decide) (by decide)), if_neg (key 12 (by decide) (by decide)), if_neg (key 13 (by decide) (by decide)), if_neg (key 14 (by decide) (by decide)), if_neg (key 15 (by decide) (by decide)), if_neg (key 16 (by decide) (by decide)), if_neg (key 17 (by decide) (by decide)), if_neg (key 18 (by decide) (by decide)), if_neg (key 19 (by decide) (by decide)), if_neg (key 20 (by decide) (by decide)), if_neg (key 21 (by decide) (by decide)), if_neg (key 22 (by decide) (by decide)), if_neg (key 23 (by decide) (by decide)), if_neg (key 24 (by decide) (by decide)), if_neg (key 25 (by decide) (by decide)), if_neg (key 26 (by decide) (by decide))]
theorem i32_of {o : Int32} {k : Int32} (h : o.toInt = k.toInt) : o = k := Int32.toInt_inj.mp h
set_option maxHeartbeats 4000000 in
set_option maxRecDepth 100000 in
theorem law_case {H : Heap} {locs : List Loc} {cells slots : Nat} {A : Nat → Nat} {G G1 : Nat → Bool} {M M1 : Mem} {i : Nat} {ls : Array Slot} (C0 : LC p l s m c b L xs D cy) (hw : WD D cy (LAs s) A s.heap G M H locs) (hl : lv_has ls 8 [(5, .int (nI i)), (0, .ref b), (1, .ref (A 0)), (2, .ref (A 3)), (3, .ref (A 6)), (4, .ref (A 7))]) (hi : i + 4 ≤ L) (hcs : cells + 50 ≤ 601024 ∧ slots + 3520 ≤ 7293034) (hm : lawStep (xs (i + 0) &&& 31) (xs (i + 1)) (xs (i + 2)) (xs (i + 3)) G M = some (G1, M1))
    (kk : ∀ (A1 : Nat → Nat) (H1 : Heap) (locs1 : List Loc) (ls1 : Array Slot), WD D cy (LAs s) A1 s.heap G1 M1 H1 locs1 → lv_has ls1 8 [(5, .int (nI i)), (0, .ref b), (1, .ref (A1 0)), (2, .ref (A1 3)), (3, .ref (A1 6)), (4, .ref (A1 7))] → W p l e room_1 s m #[Value.ref b] below meth c H1 locs1 (cells + 50) (slots + 3520) Q (F0 m 1689 ls1 [])) : W p l e room_1 s m #[Value.ref b] below meth c H locs cells slots Q (F0 m 44 ls [.int (xs (i + 0) &&& 31)]) := by
  obtain ⟨hx, hb, -⟩ := id C0
  by_cases ho : (xs (i + 0) &&& 31).toInt < 0 ∨ 26 < (xs (i + 0) &&& 31).toInt
  · rw [lst_no ho] at hm
    cases Option.some.inj hm
    refine lv_tableOut (tgt := 1689) hx hb dL_law_44 ho (by decide) ?_
    exact kwid (kk A H locs ls hw hl)
  · generalize xs (i + 0) &&& 31 = o at hm ho ⊢
    have h27 : o.toInt = 0 ∨ o.toInt = 1 ∨ o.toInt = 2 ∨ o.toInt = 3 ∨ o.toInt = 4 ∨ o.toInt = 5 ∨ o.toInt = 6 ∨ o.toInt = 7 ∨ o.toInt = 8 ∨ o.toInt = 9 ∨ o.toInt = 10 ∨ o.toInt = 11 ∨ o.toInt = 12 ∨ o.toInt = 13 ∨ o.toInt = 14 ∨ o.toInt = 15 ∨ o.toInt = 16 ∨ o.toInt = 17 ∨ o.toInt = 18 ∨ o.toInt = 19 ∨ o.toInt = 20 ∨ o.toInt = 21 ∨ o.toInt = 22 ∨ o.toInt = 23 ∨ o.toInt = 24 ∨ o.toInt = 25 ∨ o.toInt = 26 := by omega
    rcases h27 with h | h | h | h | h | h | h | h | h | h | h | h | h | h | h | h | h | h | h | h | h | h | h | h | h | h | h
    · obtain rfl : o = 0 := i32_of h
      rw [lst_0] at hm
      exact lv_tableIn (off := 124) (tgt := 168) hx hb dL_law_44 (by decide) (by decide) (by decide) (by decide) (k_law_0 C0 hw hl hi hcs hm kk)
    · obtain rfl : o = 1 := i32_of h
      rw [lst_1] at hm
      exact lv_tableIn (off := 168) (tgt := 212) hx hb dL_law_44 (by decide) (by decide) (by decide) (by decide) (k_law_1 C0 hw hl hi hcs hm kk)
    · obtain rfl : o = 2 := i32_of h
      rw [lst_2] at hm
      exact lv_tableIn (off := 224) (tgt := 268) hx hb dL_law_44 (by decide) (by decide) (by decide) (by decide) (k_law_2 C0 hw hl hi hcs hm kk)
    · obtain rfl : o = 3 := i32_of h
      rw [lst_3] at hm
      exact lv_tableIn (off := 280) (tgt := 324) hx hb dL_law_44 (by decide) (by decide) (by decide) (by decide) (k_law_3 C0 hw hl hi hcs hm kk)
    · obtain rfl : o = 4 := i32_of h
      rw [lst_4] at hm
      exact lv_tableIn (off := 336) (tgt := 380) hx hb dL_law_44 (by decide) (by decide) (by decide) (by decide) (k_law_4 C0 hw hl hi hcs hm kk)
    · obtain rfl : o = 5 := i32_of h
      rw [lst_5] at hm
      exact lv_tableIn (off := 349) (tgt := 393) hx hb dL_law_44 (by decide) (by decide) (by decide) (by decide) (k_law_5 C0 hw hl hi hcs hm kk)
    · obtain rfl : o = 6 := i32_of h
      rw [lst_6] at hm
      exact lv_tableIn (off := 405) (tgt := 449) hx hb dL_law_44 (by decide) (by decide) (by decide) (by decide) (k_law_6 C0 hw hl hi hcs hm kk)
    · obtain rfl : o = 7 := i32_of h
      rw [lst_7] at hm
      exact lv_tableIn (off := 461) (tgt := 505) hx hb dL_law_44 (by decide) (by decide) (by decide) (by decide) (k_law_7 C0 hw hl hi hcs hm kk)
    · obtain rfl : o = 8 := i32_of h
      rw [lst_8] at hm
      exact lv_tableIn (off := 539) (tgt := 583) hx hb dL_law_44 (by decide) (by decide) (by decide) (by decide) (k_law_8 C0 hw hl hi hcs hm kk)
    · obtain rfl : o = 9 := i32_of h
      rw [lst_9] at hm
      exact lv_tableIn (off := 614) (tgt := 658) hx hb dL_law_44 (by decide) (by decide) (by decide) (by decide) (k_law_9 C0 hw hl hi hcs hm kk)
    · obtain rfl : o = 10 := i32_of h
      rw [lst_10] at hm
      exact lv_tableIn (off := 627) (tgt := 671) hx hb dL_law_44 (by decide) (by decide) (by decide) (by decide) (k_law_10 C0 hw hl hi hcs hm kk)
    · obtain rfl : o = 11 := i32_of h
      rw [lst_11] at hm
      exact lv_tableIn (off := 707) (tgt := 751) hx hb dL_law_44 (by decide) (by decide) (by decide) (by decide) (k_law_11 C0 hw hl hi hcs hm kk)
    · obtain rfl : o = 12 := i32_of h
      rw [lst_12] at hm
      exact lv_tableIn (off := 775) (tgt := 819) hx hb dL_law_44 (by decide) (by decide) (by decide) (by decide) (k_law_12 C0 hw hl hi hcs hm kk)
    · obtain rfl : o = 13 := i32_of h
      rw [lst_13] at hm
      exact lv_tableIn (off := 843) (tgt := 887) hx hb dL_law_44 (by decide) (by decide) (by decide) (by decide) (k_law_13 C0 hw hl hi hcs hm kk)
    · obtain rfl : o = 14 := i32_of h
      rw [lst_14] at hm
      exact lv_tableIn (off := 899) (tgt := 943) hx hb dL_law_44 (by decide) (by decide) (by decide) (by decide) (k_law_14 C0 hw hl hi hcs hm kk)
    · obtain rfl : o = 15 := i32_of h
      rw [lst_15] at hm
      exact lv_tableIn (off := 955) (tgt := 999) hx hb dL_law_44 (by decide) (by decide) (by decide) (by decide) (k_law_15 C0 hw hl hi hcs hm kk)
    · obtain rfl : o = 16 := i32_of h
      rw [lst_16] at hm
      exact lv_tableIn (off := 1023) (tgt := 1067) hx hb dL_law_44 (by decide) (by decide) (by decide) (by decide) (k_law_16 C0 hw hl hi hcs hm kk)
    · obtain rfl : o = 17 := i32_of h
      rw [lst_17] at hm
      exact lv_tableIn (off := 1079) (tgt := 1123) hx hb dL_law_44 (by decide) (by decide) (by decide) (by decide) (k_law_17 C0 hw hl hi hcs hm kk)
    · obtain rfl : o = 18 := i32_of h
      rw [lst_18] at hm
      exact lv_tableIn (off := 1135) (tgt := 1179) hx hb dL_law_44 (by decide) (by decide) (by decide) (by decide) (k_law_18 C0 hw hl hi hcs hm kk)
    · obtain rfl : o = 19 := i32_of h
      rw [lst_19] at hm
      exact lv_tableIn (off := 1191) (tgt := 1235) hx hb dL_law_44 (by decide) (by decide) (by decide) (by decide) (k_law_19 C0 hw hl hi hcs hm kk)
    · obtain rfl : o = 20 := i32_of h
      rw [lst_20] at hm
      exact lv_tableIn (off := 1259) (tgt := 1303) hx hb dL_law_44 (by decide) (by decide) (by decide) (by decide) (k_law_20 C0 hw hl hi hcs hm kk)
    · obtain rfl : o = 21 := i32_of h
      rw [lst_21] at hm
      exact lv_tableIn (off := 1327) (tgt := 1371) hx hb dL_law_44 (by decide) (by decide) (by decide) (by decide) (k_law_21 C0 hw hl hi hcs hm kk)
    · obtain rfl : o = 22 := i32_of h
      rw [lst_22] at hm
      exact lv_tableIn (off := 1383) (tgt := 1427) hx hb dL_law_44 (by decide) (by decide) (by decide) (by decide) (k_law_22 C0 hw hl hi hcs hm kk)
    · obtain rfl : o = 23 := i32_of h
      rw [lst_23] at hm
      exact lv_tableIn (off := 1451) (tgt := 1495) hx hb dL_law_44 (by decide) (by decide) (by decide) (by decide) (k_law_23 C0 hw hl hi hcs hm kk)
    · obtain rfl : o = 24 := i32_of h
      rw [lst_24] at hm
      exact lv_tableIn (off := 1531) (tgt := 1575) hx hb dL_law_44 (by decide) (by decide) (by decide) (by decide) (k_law_24 C0 hw hl hi hcs hm kk)
    · obtain rfl : o = 25 := i32_of h
      rw [lst_25] at hm
      exact lv_tableIn (off := 1587) (tgt := 1631) hx hb dL_law_44 (by decide) (by decide) (by decide) (by decide) (k_law_25 C0 hw hl hi hcs hm kk)
    · obtain rfl : o = 26 := i32_of h
      rw [lst_26] at hm
      exact lv_tableIn (off := 1631) (tgt := 1675) hx hb dL_law_44 (by decide) (by decide) (by decide) (by decide) (k_law_26 C0 hw hl hi hcs hm kk)
theorem L4 {i L : Nat} (hL : L ≤ 2048) (hi : i ≤ 4096) : (Int32.ofNat L - 4 < nI i) ↔ L < i + 4 := by
  rw [Int32.lt_iff_toInt_lt, nI_toInt (by omega)]
  have h1 : (Int32.ofNat L - 4).toInt = (L : Int) - 4 := by
    rw [Int32.toInt_sub]
    have h2 : (Int32.ofNat L).toInt = (L : Int) := nI_toInt (n := L) (by omega)
    rw [h2, show (4 : Int32).toInt = 4 from rfl]
    exact Int.bmod_eq_of_le (by omega) (by omega)
  rw [h1]
  omega
set_option maxHeartbeats 4000000 in
set_option maxRecDepth 100000 in
theorem law_loop (C0 : LC p l s m c b L xs D cy) (hout : ∀ (H : Heap) (locs : List Loc) (cells slots : Nat) (ls : Array Slot), cells ≤ 601024 → slots ≤ 7293034 → (∀ q ∈ locs, s.heap.size ≤ q.base) → W p l e room_1 s m #[Value.ref b] below meth c H locs cells slots Q (F0 m 1695 ls [])) :
    ∀ (n i : Nat) (H : Heap) (locs : List Loc) (cells slots : Nat) (A : Nat → Nat) (G : Nat → Bool) (M : Mem) (ls : Array Slot) (q : (Nat → Bool) × Mem), i + 4 * n ≤ L → L < i + 4 * n + 4 → cells + 50 * n ≤ 601024 → slots + 3520 * n ≤ 7293034 → WD D cy (LAs s) A s.heap G M H locs → lv_has ls 8 [(5, .int (nI i)), (0, .ref b), (1, .ref (A 0)), (2, .ref (A 3)), (3, .ref (A 6)), (4, .ref (A 7))] → lawRun xs n i G M = some q → W p l e room_1 s m #[Value.ref b] below meth c H locs cells slots Q (F0 m 28 ls []) := by
  obtain ⟨hx, hb, hml, hown, hts, hK, hR, hT, hN, hX, hbl, hL, hfl⟩ := id C0
  intro n
  induction n with
  | zero =>
    intro i H locs cells slots A G M ls q h1 h2 h3 h4 hw hl hm
    refine lv_iload hx hb dL_law_28 (lv_at hl 0 rfl) ?_
    refine lv_aload_n hx hb dL_law_30 rfl (lv_at hl 1 rfl) ?_
    refine va_slen hx hb hX hbl (Nat.not_le.mpr hbl) hw.2.2 dL_law_31 ?_
    refine lv_iconst (v := 4) hx hb dL_law_32 rfl ?_
    refine lv_isub hx hb dL_law_33 ?_
    refine lv_icmp_gt (tgt := 1695) hx hb dL_law_34 (by decide) (fun _ => ?_) (fun hq => absurd ((L4 hL (by omega)).mpr (by omega)) hq)
    exact hout H locs cells slots ls (by omega) (by omega) hw.2.2.2.2
  | succ n ih =>
    intro i H locs cells slots A G M ls q h1 h2 h3 h4 hw hl hm
    obtain ⟨⟨G1, M1⟩, e1, hm⟩ := Option.bind_eq_some_iff.mp (show Option.bind (lawStep (xs i &&& 31) (xs (i + 1)) (xs (i + 2)) (xs (i + 3)) G M) (fun q => lawRun xs n (i + 4) q.1 q.2) = some q from hm)
    refine lv_iload hx hb dL_law_28 (lv_at hl 0 rfl) ?_
    refine lv_aload_n hx hb dL_law_30 rfl (lv_at hl 1 rfl) ?_
    refine va_slen hx hb hX hbl (Nat.not_le.mpr hbl) hw.2.2 dL_law_31 ?_
    refine lv_iconst (v := 4) hx hb dL_law_32 rfl ?_
    refine lv_isub hx hb dL_law_33 ?_
    refine lv_icmp_gt (tgt := 1695) hx hb dL_law_34 (by decide) (fun hq => absurd ((L4 hL (by omega)).mp hq) (by omega)) (fun _ => ?_)
    refine lv_aload_n hx hb dL_law_37 rfl (lv_at hl 1 rfl) ?_
    refine lv_iload hx hb dL_law_38 (lv_at hl 0 rfl) ?_
    refine xl (i := i) (k := 0) hx hb hX hbl hL hw (by rw [nI_add]; rfl) (by omega) dL_law_40 ?_
    refine lv_bipush (v := 31) hx hb dL_law_41 (by decide) ?_
    refine lv_iand hx hb dL_law_43 ?_
    refine law_case C0 hw hl (by omega) ⟨by omega, by omega⟩ e1 (fun A1 H1 locs1 ls1 hw hl => ?_)
    refine lv_iinc (v := nI (i + 4)) (lv' := [(5, .int (nI (i + 4))), (0, .ref b), (1, .ref (A1 0)), (2, .ref (A1 3)), (3, .ref (A1 6)), (4, .ref (A1 7))]) hx hb dL_law_1689 hl (k := 0) rfl (nI_add i 4) (by decide) rfl (fun ls hl => ?_)
    refine lv_goto (tgt := 28) hx hb dL_law_1692 (by decide) ?_
    exact ih (i + 4) H1 locs1 (cells + 50) (slots + 3520) A1 G1 M1 ls q (by omega) (by omega) (by omega) (by omega) hw hl hm
end LOOP
