/-! floats: their bits -/
section FLO
variable {E T c : Nat} {q : Int} {x y : UInt32}
theorem fl_exps : FP.Core.b32.exps = 256 := by decide
theorem fl_qmax : FP.Core.b32.qmax = 104 := by decide
theorem fl_bits (h1 : 1 ≤ E) (h2 : E ≤ 254) (hT : T < 8388608) (hy : y.toNat = 8388608 * E + T) : FP.Core.val32 y = .fin false (8388608 + T) ((E : Int) - 150) := by
  have ht : FP.Core.b32.tails = 8388608 := FP.Core.tails_b32
  have ha : 8388608 * E + T = FP.Core.assemble FP.Core.b32 false E T := by
    unfold FP.Core.assemble
    rw [ht]
    simp only [Bool.toNat_false, Nat.zero_mul, Nat.zero_add]
    omega
  show FP.Core.decode FP.Core.b32 y.toNat = _
  rw [hy, ha, FP.Core.decode_assemble _ _ _ _ (by rw [fl_exps]; omega) (by rw [ht]; exact hT), if_neg (by rw [fl_exps]; omega), if_neg (by omega), ht, FP.Core.qmin_b32]
  congr 1
  omega
theorem fl_fin {s : Bool} (h : FP.Core.val32 y = .fin s c q) : FP.Core.val32 y ≠ .nan := by rw [h]; exact FP.Core.Datum.noConfusion
theorem fl_toNat (h1 : 1 ≤ E) (h2 : E ≤ 254) (hT : T < 8388608) (h : FP.Core.val32 y = .fin false (8388608 + T) ((E : Int) - 150)) : y.toNat = 8388608 * E + T := by
  have hz : (UInt32.ofNat (8388608 * E + T)).toNat = 8388608 * E + T := UInt32.toNat_ofNat_of_lt' (by show _ < 4294967296; omega)
  rw [FP.Core.val32_inj (fl_fin h) (h.trans (fl_bits h1 h2 hT hz).symm), hz]
theorem fl_fits (h1 : 8388608 ≤ c) (h2 : c < 16777216) (h3 : -149 ≤ q) (h4 : q ≤ 104) : FP.Core.fits FP.Core.b32 (.fin false c q) :=
  ⟨h2, by rw [FP.Core.qmin_b32]; exact h3, by rw [fl_qmax]; exact h4, Or.inr (by rw [FP.Core.tails_b32]; exact h1)⟩
theorem fl_dbl (hx : FP.Core.val32 x = .fin false c q) (h1 : 8388608 ≤ c) (h2 : c < 16777216) (h3 : -149 ≤ q) (h4 : q < 104) : FP.Core.val32 (FP.fmul x 1073741824) = .fin false c (q + 1) := by
  refine (FP.Core.val32_fmul x 1073741824).trans ?_
  rw [hx, show FP.Core.val32 1073741824 = .fin false 8388608 (-22) by decide +kernel]
  refine FP.Core.roundRatio_exact FP.Core.good_b32 (s := false) (A := c * 8388608) (B := 1) (e := q + -22) (by decide) (fl_fits h1 h2 (by omega) (by omega)) ?_
  rw [show (q + -22 - (q + 1)).toNat = 0 by omega, show (q + 1 - (q + -22)).toNat = 23 by omega]
  show c * 8388608 * 1 = c * 1 * 8388608
  omega
theorem fl_n32 (h : FP.Core.val32 y ≠ .nan) : n32 y := by
  show y &&& 0x7fffffff ≤ 0x7f800000
  rw [UInt32.le_iff_toNat_le, UInt32.toNat_and, show (0x7fffffff : UInt32).toNat = 2 ^ 31 - 1 from rfl, Nat.and_two_pow_sub_one_eq_mod]
  exact (FP.Core.ne_nan32 y).mp h
theorem pow_k {a b k m : Nat} (h : a * 2 ^ k = b * 2 ^ m) (hk : k ≤ m) : a = b * 2 ^ (m - k) := by
  refine Nat.eq_of_mul_eq_mul_right (Nat.two_pow_pos k) ?_
  rw [h, Nat.mul_assoc, ← Nat.pow_add, Nat.sub_add_cancel hk]
theorem fl_top (hT : T < 8388608) (hx : FP.Core.val32 x = .fin false (8388608 + T) (-23)) : n32 (FP.fsub x 1065353216) ∧ n32 (FP.fmul (FP.fsub x 1065353216) 1258291200) ∧ FP.f2i (FP.fmul (FP.fsub x 1065353216) 1258291200) = nI T := by
  have hsu : FP.Core.sumUnits false (8388608 + T) (-23) true 8388608 (-23) (min (-23) (-23)) = (T : Int) := by
    show (((8388608 + T) * 1 : Nat) : Int) + -((8388608 * 1 : Nat) : Int) = (T : Int)
    omega
  have hsum : FP.Core.exactSum (.fin false (8388608 + T) (-23)) (.fin true 8388608 (-23)) = .fin false T (-23) := by
    show FP.Core.Datum.fin (FP.Core.sumSign false true (FP.Core.sumUnits false (8388608 + T) (-23) true 8388608 (-23) (min (-23) (-23)))) (FP.Core.sumUnits false (8388608 + T) (-23) true 8388608 (-23) (min (-23) (-23))).natAbs (-23) = _
    rw [hsu]
    unfold FP.Core.sumSign
    have : (if (T : Int) = 0 then (false && true) else decide ((T : Int) < 0)) = false := by
      split
      · rfl
      · exact decide_eq_false (by omega)
    rw [this, Int.natAbs_natCast]
  have hs := FP.Core.val32_fsub x 1065353216
  rw [hx, show FP.Core.val32 1065353216 = .fin false 8388608 (-23) by decide +kernel] at hs
  have hs2 : FP.Core.val32 (FP.fsub x 1065353216) = FP.Core.round FP.Core.b32 (.fin false T (-23)) := by
    refine hs.trans ?_
    rw [← hsum]
    rfl
  obtain ⟨c', q', hr, hu⟩ := FP.Core.round_exact FP.Core.good_b32 false (c := T) (q := -23) (by show T < 16777216; omega) (by rw [FP.Core.qmin_b32]; omega) (by rw [fl_qmax]; omega)
  have hfit := FP.Core.round_fits FP.Core.good_b32 (.fin false T (-23))
  rw [hr] at hfit hs2
  have hq := hfit.2.1
  rw [FP.Core.qmin_b32] at hq hu
  have hu : c' * 2 ^ (q' - -149).toNat = T * 2 ^ 126 := hu
  have hm := FP.Core.val32_fmul (FP.fsub x 1065353216) 1258291200
  rw [show FP.Core.val32 1258291200 = .fin false 8388608 0 by decide +kernel, hs2] at hm
  have hm2 : FP.Core.val32 (FP.fmul (FP.fsub x 1065353216) 1258291200) = FP.Core.round FP.Core.b32 (.fin false (c' * 8388608) (q' + 0)) := hm
  have hw : FP.Core.Whole (T : Int) (.fin false (c' * 8388608) (q' + 0)) := by
    show ((c' * 8388608 * 2 ^ (q' + 0).toNat : Nat) : Int) = (T : Int) * ((2 ^ (-(q' + 0)).toNat : Nat) : Int)
    rw [Int.add_zero, ← Int.natCast_mul]
    congr 1
    by_cases hk : (q' - -149).toNat ≤ 149
    · rw [show q'.toNat = 0 by omega, show (-q').toNat = 149 - (q' - -149).toNat by omega, Nat.pow_zero, Nat.mul_one]
      refine pow_k (k := (q' - -149).toNat) (m := 149) ?_ hk
      rw [Nat.mul_right_comm, hu, Nat.mul_assoc]
    · rw [show (-q').toNat = 0 by omega, Nat.pow_zero, Nat.mul_one]
      have h2 : (q' - -149).toNat = q'.toNat + 23 + 126 := by omega
      rw [h2, Nat.pow_add, ← Nat.mul_assoc] at hu
      have h3 := Nat.eq_of_mul_eq_mul_right (Nat.two_pow_pos 126) hu
      rw [← h3, Nat.pow_add, Nat.mul_right_comm, Nat.mul_assoc]
  have hw2 := FP.Core.whole_round FP.Core.good_b32 FP.Core.wide_b32 (i := (T : Int)) (by rw [Int.natAbs_natCast]; show T ≤ 16777216; omega) hw
  rw [← hm2] at hw2
  refine ⟨fl_n32 (fl_fin hs2), fl_n32 hw2.ne_nan, FP.Core.f2i_int (a := nI T) ?_⟩
  rw [nI_toInt (by omega)]
  exact hw2
theorem fl_cmp (h1 : x.toNat ≤ 2139095040) (h2 : y.toNat ≤ 2139095040) : FP.fcmp x y = some (compare (x.toNat : Int) (y.toNat : Int)) := by
  have e : ∀ z : UInt32, z.toNat ≤ 2139095040 → FP.Core.fkey z = (z.toNat : Int) := fun z hz => by
    unfold FP.Core.fkey
    rw [if_neg (by omega)]
  have h := FP.Core.fcmp_key (a := x) (b := y) ((FP.Core.ne_nan32 x).mpr (by omega)) ((FP.Core.ne_nan32 y).mpr (by omega))
  rw [e x h1, e y h2] at h
  exact h
theorem fl_lt (h2 : y.toNat ≤ 2139095040) (h : x.toNat < y.toNat) : FP.fcmp x y = some .lt := by
  rw [fl_cmp (by omega) h2]
  exact congrArg some (Int.compare_eq_lt.mpr (by omega))
theorem fl_gt (h1 : x.toNat ≤ 2139095040) (h : y.toNat < x.toNat) : FP.fcmp x y = some .gt := by
  rw [fl_cmp h1 (by omega)]
  exact congrArg some (Int.compare_eq_gt.mpr (by omega))
theorem fl_eq (h1 : x.toNat ≤ 2139095040) (h : x.toNat = y.toNat) : FP.fcmp x y = some .eq := by
  rw [fl_cmp h1 (by omega), h]
  exact congrArg some (Int.compare_eq_eq.mpr rfl)
theorem shl23 (h : E < 256) : nI E <<< (23 &&& 31) = nI (8388608 * E) := (show ∀ E < 256, nI E <<< (23 &&& 31) = nI (8388608 * E) by decide +kernel) E h
theorem bos_loop (hE : 2 ≤ E) (hT : T < 8388608) : ∀ (d g : Nat) (v : UInt32), E + d ≤ 127 → d < g → FP.Core.val32 v = .fin false (8388608 + T) (((127 - d : Nat) : Int) - 150) → m_X5_bitsOfShare_L13 y g v (nI (E + d)) = some (nI (8388608 * E + T)) := by
  intro d
  induction d with
  | zero =>
    intro g v h1 h2 hv
    obtain ⟨g, rfl⟩ : ∃ k, g = k + 1 := ⟨g - 1, by omega⟩
    have hn := fl_toNat (E := 127) (by omega) (by omega) hT hv
    obtain ⟨t1, t2, t3⟩ := fl_top hT hv
    have hcmp : (0 : Int32) ≤ Op.cmpValue (FP.fcmp v 1065353216) CmpOp.g := by
      rcases Nat.eq_zero_or_pos T with h0 | h0
      · rw [fl_eq (x := v) (y := 1065353216) (by omega) (by rw [hn, h0]; rfl)]
        decide
      · rw [fl_gt (x := v) (y := 1065353216) (by omega) (by rw [hn]; show 1065353216 < _; omega)]
        decide
    rw [m_X5_bitsOfShare_L13_s, if_pos hcmp]
    unfold m_X5_bitsOfShare_b34
    rw [ck_t t1, ck_t t2, t3, Nat.add_zero, shl23 (by omega), nI_add]
  | succ d ih =>
    intro g v h1 h2 hv
    obtain ⟨g, rfl⟩ : ∃ k, g = k + 1 := ⟨g - 1, by omega⟩
    have hn := fl_toNat (E := 127 - (d + 1)) (by omega) (by omega) hT hv
    have hcmp : ¬ (0 : Int32) ≤ Op.cmpValue (FP.fcmp v 1065353216) CmpOp.g := by
      rw [fl_lt (x := v) (y := 1065353216) (by decide) (by rw [hn]; show _ < 1065353216; omega)]
      decide
    have hd := fl_dbl hv (by omega) (by omega) (by omega) (by omega)
    rw [show (((127 - (d + 1) : Nat) : Int) - 150 + 1) = ((127 - d : Nat) : Int) - 150 by omega] at hd
    rw [m_X5_bitsOfShare_L13_s, if_neg hcmp, if_neg (show ¬ nI (E + (d + 1)) ≤ 1 from nI_ge (a := 1) (by omega) (by omega)), ck_t (fl_n32 (fl_fin hd)), show nI (E + (d + 1)) + (-1) = nI (E + d) by
      rw [← Int32.sub_eq_add_neg, nI_sub1 (by omega)]
      rfl]
    exact ih g _ (by omega) (by omega) hd
/-- a share's bits: none, or those of a normal number of at most 1 -/
def ShB (y : UInt32) : Prop := y = 0 ∨ ∃ E T, 2 ≤ E ∧ E ≤ 127 ∧ T < 8388608 ∧ y.toNat = 8388608 * E + T
theorem nI_u32 : y.toInt32 = nI y.toNat := by
  refine Int32.toBitVec_inj.mp ?_
  show y.toBitVec = BitVec.ofNat 32 y.toBitVec.toNat
  rw [BitVec.ofNat_toNat, BitVec.setWidth_eq]
theorem ShB.le (h : ShB y) : y.toNat ≤ 2139095040 := by
  rcases h with h | ⟨E, T, h1, h2, h3, h4⟩
  · rw [h]; decide
  · omega
theorem ShB.nan (h : ShB y) : FP.Core.val32 y ≠ .nan := (FP.Core.ne_nan32 y).mpr (by have := h.le; omega)
theorem bos_ok (h : ShB y) : m_X5_bitsOfShare y = some y.toInt32 := by
  rcases h with h | ⟨E, T, h1, h2, h3, h4⟩
  · rw [h]
    unfold m_X5_bitsOfShare
    rw [fl_eq (by decide) rfl]
    rfl
  · have hv := fl_bits (by omega) (by omega) h3 h4
    unfold m_X5_bitsOfShare
    rw [fl_gt (x := y) (y := 0) (by omega) (by show 0 < _; omega), if_pos (show (0 : Int32) < Op.cmpValue (some .gt) CmpOp.l by decide)]
    have hl := bos_loop (y := y) (E := E) (T := T) h1 h3 (127 - E) fuel y (by omega) (by unfold fuel; omega) (by rw [show 127 - (127 - E) = E by omega]; exact hv)
    rw [show E + (127 - E) = 127 by omega] at hl
    rw [nI_u32, h4]
    exact hl
theorem f2ib_ok (h : ShB y) : m_Jxf58ca_floatToIntBits_5c35a y = y.toInt32 := by
  unfold m_Jxf58ca_floatToIntBits_5c35a m_Jxf58ca_isNaN_12338
  rw [fl_eq h.le rfl]
  rfl
end FLO
