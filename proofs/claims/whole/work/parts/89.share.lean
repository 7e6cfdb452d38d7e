/-! shares -/
theorem mul3 {a b k : Nat} (hk : 0 < k) (h : a * k ≤ b * k) : a ≤ b := Nat.le_of_mul_le_mul_right h hk
theorem q_le {a b c d P R Q N X V : Nat} (hpos : 0 < P * R) (h1 : V * (P * R) = Q * (N * X)) (e2 : c * Q = a * P) (f2 : d * R = b * N) (hab : a ≤ b) : c * V ≤ X * d := by
  refine mul3 hpos ?_
  rw [Nat.mul_assoc, h1, ← Nat.mul_assoc, e2, show X * d * (P * R) = d * R * (P * X) by ac_rfl, f2, show a * P * (N * X) = a * (P * N * X) by ac_rfl, show b * N * (P * X) = b * (P * N * X) by ac_rfl]
  exact Nat.mul_le_mul_right _ hab
theorem q_ge {a b c d P R Q N X V Y Z : Nat} (hpos : 0 < P * R) (h1 : V * (P * R) = Q * (N * X)) (e2 : c * Q = a * P) (f2 : d * R = b * N) (hX : X = Y * Z) (hb : b ≤ a * Z) : Y * d ≤ c * V := by
  refine mul3 hpos ?_
  rw [Nat.mul_assoc c, h1, ← Nat.mul_assoc c, e2, hX, show Y * d * (P * R) = d * R * (P * Y) by ac_rfl, f2, show a * P * (N * (Y * Z)) = a * Z * (P * N * Y) by ac_rfl, show b * N * (P * Y) = b * (P * N * Y) by ac_rfl]
  exact Nat.mul_le_mul_right _ hb
/-- a whole number as a float -/
theorem fl_whole {a : Nat} (h0 : 0 < a) (h : a ≤ 1280) : ∃ c q, FP.Core.val32 (FP.i2f (nI a)) = .fin false c q ∧ c * 2 ^ q.toNat = a * 2 ^ (-q).toNat ∧ -149 ≤ q ∧ q ≤ 104 ∧ c ≠ 0 := by
  have hi := FP.Core.i2f_int (a := nI a) (by rw [nI_toInt (by omega), Int.natAbs_natCast]; omega)
  rw [nI_toInt (by omega)] at hi
  have hi : FP.Core.Whole (a : Int) (FP.Core.val32 (FP.i2f (nI a))) := hi
  have hf := FP.Core.val32_fits (FP.i2f (nI a))
  cases hv : FP.Core.val32 (FP.i2f (nI a)) with
  | nan => rw [hv] at hi; exact hi.elim
  | inf s => rw [hv] at hi; exact hi.elim
  | fin s c q =>
    rw [hv] at hi hf
    have hs := FP.Core.whole_sign hi (by omega)
    rw [decide_eq_false (by omega)] at hs
    subst hs
    have ha := FP.Core.whole_natAbs hi
    rw [Int.natAbs_natCast] at ha
    have h1 := hf.2.1
    have h2 := hf.2.2.1
    rw [FP.Core.qmin_b32] at h1
    rw [fl_qmax] at h2
    refine ⟨c, q, rfl, ha, h1, h2, fun q => ?_⟩
    have := (FP.Core.whole_zero hi).mp q
    omega
theorem fl_quot {a b : Nat} (ha : 0 < a) (hab : a ≤ b) (hb : b ≤ 1280) : ShB (FP.fdiv (FP.i2f (nI a)) (FP.i2f (nI b))) := by
  obtain ⟨c, q, e1, e2, e3, e4, e5⟩ := fl_whole ha (by omega)
  obtain ⟨d, r, f1, f2, f3, f4, f5⟩ := fl_whole (show 0 < b by omega) hb
  have hv := FP.Core.val32_fdiv (FP.i2f (nI a)) (FP.i2f (nI b))
  rw [e1, f1] at hv
  have hv : FP.Core.val32 (FP.fdiv (FP.i2f (nI a)) (FP.i2f (nI b))) = FP.Core.roundRatio FP.Core.b32 false c d (q - r) := hv.trans (by
    show (if d = 0 then _ else _) = _
    rw [if_neg f5]
    rfl)
  generalize FP.fdiv (FP.i2f (nI a)) (FP.i2f (nI b)) = y at hv
  have hne : FP.Core.val32 y ≠ .nan := by rw [hv]; exact FP.Core.roundRatio_ne_nan _ _ _ _ _
  have hsg := FP.Core.sgn_bits32 hne
  rw [hv, FP.Core.sgn_roundRatio] at hsg
  have hlt : y.toNat < 2 ^ 31 := Nat.lt_of_not_le (of_decide_eq_false hsg.symm)
  obtain ⟨m, hm⟩ : ∃ m : Nat, m = 600 := ⟨600, rfl⟩
  have hu : ((q - r - (-600)).toNat + ((-q).toNat + r.toNat)) = q.toNat + ((-r).toNat + m) := by omega
  generalize hU : (q - r - (-600)).toNat = U at hu
  have hpos : 0 < 2 ^ (-q).toNat * 2 ^ r.toNat := Nat.mul_pos (Nat.two_pow_pos _) (Nat.two_pow_pos _)
  have h1 : 2 ^ U * (2 ^ (-q).toNat * 2 ^ r.toNat) = 2 ^ q.toNat * (2 ^ (-r).toNat * 2 ^ m) := by
    rw [← Nat.pow_add, ← Nat.pow_add, ← Nat.pow_add, ← Nat.pow_add, hu]
  have ht : FP.Core.b32.tails = 2 ^ 23 := FP.Core.tails_b32
  have hle : FP.Core.mag FP.Core.b32 y.toNat ≤ 127 * FP.Core.b32.tails := by
    refine FP.Core.mag_le FP.Core.good_b32 (e0 := -600) hv (by omega) (by rw [FP.Core.qmin_b32]; omega) (by omega) ?_
    rw [FP.Core.unitsOf_start (by omega), ht, FP.Core.qmin_b32]
    show c * 2 ^ (q - r - (-600)).toNat ≤ 2 ^ 23 * 2 ^ 126 * 2 ^ 451 * d
    rw [hU, ← Nat.pow_add, ← Nat.pow_add, show 23 + 126 + 451 = m by omega]
    exact q_le hpos h1 e2 f2 hab
  have hge : 116 * FP.Core.b32.tails ≤ FP.Core.mag FP.Core.b32 y.toNat := by
    refine FP.Core.mag_ge FP.Core.good_b32 (e0 := -600) hv (by omega) (by rw [FP.Core.qmin_b32]; omega) (by omega) (by rw [ht, FP.Core.infBits_b32]; omega) ?_
    rw [FP.Core.unitsOf_start (by omega), ht, FP.Core.qmin_b32]
    show 2 ^ 23 * 2 ^ 115 * 2 ^ 451 * d ≤ c * 2 ^ (q - r - (-600)).toNat
    obtain ⟨m', hm'⟩ : ∃ m : Nat, m = 589 := ⟨589, rfl⟩
    rw [hU, ← Nat.pow_add, ← Nat.pow_add, show 23 + 115 + 451 = m' by omega]
    refine q_ge hpos h1 e2 f2 (Z := 2 ^ 11) ?_ (by show b ≤ a * 2048; omega)
    rw [← Nat.pow_add]
    congr 1
    omega
  rw [FP.Core.mag_toNat32, ht] at hle hge
  exact Or.inr ⟨y.toNat / 8388608, y.toNat % 8388608, by omega, by
    have : y.toNat ≤ 127 * 8388608 := by omega
    omega, Nat.mod_lt _ (by omega), (Nat.div_add_mod _ _).symm⟩
/-- a node's share -/
def rSh (r : Nat → Int32) (nc n : Nat) : UInt32 := if sumW r nc = 0 then 0 else FP.fdiv (FP.i2f (nI (rW r n 160))) (FP.i2f (nI (sumW r nc)))
theorem sumW_ge {r : Nat → Int32} {n : Nat} : ∀ nc, n < nc → rW r n 160 ≤ sumW r nc := by
  intro nc
  induction nc with
  | zero => intro h; omega
  | succ k ih =>
    intro h
    rw [show sumW r (k + 1) = sumW r k + rW r k 160 from rfl]
    rcases Nat.lt_or_ge n k with h1 | h1
    · have := ih h1
      omega
    · rw [show n = k by omega]
      omega
theorem fl_z : FP.i2f (nI 0) = 0 := by decide +kernel
theorem rSh_ok {r : Nat → Int32} {nc n : Nat} (h8 : nc ≤ 8) (hn : n < nc) : ShB (rSh r nc n) := by
  have h1 := sumW_le (r := r) (k := nc)
  have h2 := sumW_ge (r := r) (n := n) nc hn
  unfold rSh
  split
  · exact Or.inl rfl
  · rename_i h0
    rcases Nat.eq_zero_or_pos (rW r n 160) with hz | hz
    · refine Or.inl ?_
      obtain ⟨d, q, f1, f2, f3, f4, f5⟩ := fl_whole (show 0 < sumW r nc by omega) (by omega)
      have hv := FP.Core.val32_fdiv (FP.i2f (nI (rW r n 160))) (FP.i2f (nI (sumW r nc)))
      rw [f1, hz, fl_z, show FP.Core.val32 0 = .fin false 0 FP.Core.b32.qmin by decide +kernel] at hv
      rw [hz, fl_z]
      refine FP.Core.val32_inj (by rw [hv]; show (if d = 0 then _ else _) ≠ _; rw [if_neg f5]; exact FP.Core.roundRatio_ne_nan _ _ _ _ _) (hv.trans ?_)
      show (if d = 0 then _ else _) = _
      rw [if_neg f5, show FP.Core.val32 0 = .fin false 0 FP.Core.b32.qmin by decide +kernel]
      rfl
    · exact fl_quot hz h2 (by omega)
section SHA
variable {M : Mem} {B nc lc n : Nat} {r : Nat → Int32}
theorem csh_ok (hR : RC 64 r M) (hI : Inv r nc lc) (hn : n < nc) : m_X5_shareOf 0 (67 + 3 * n) M = some (rSh r nc n) := by
  have h8 := hI.1
  have h1 := sumW_le (r := r) (k := nc)
  have hs := rSh_ok (r := r) h8 hn
  unfold m_X5_shareOf
  rw [totW_ok hR hI, bind_s, show gF M (67 + 3 * n) 2 = nI (rW r n 160) from (rc_n hR hI hn).2.2.1]
  unfold rSh at hs ⊢
  by_cases h0 : sumW r nc = 0
  · rw [if_pos h0, h0, if_pos (show nI 0 = 0 from rfl)]
  · rw [if_neg h0] at hs ⊢
    rw [if_neg (nI_ne0 (by omega) (by omega)), ck_t (fl_n32 hs.nan)]
theorem sh_loop (hI : Inv (gR M 4) nc lc) (hn : n < nc) : ∀ (d k g : Nat), k + d = nc → d < g → m_X6_shareOf_L4 3 (nI n) M g (nI (sumW (gR M 4) k)) (nI k) = some (rSh (gR M 4) nc n) := by
  have h8 := hI.1
  have hs := rSh_ok (r := gR M 4) h8 hn
  intro d
  induction d with
  | zero =>
    intro k g h1 h2
    obtain ⟨g, rfl⟩ : ∃ k, g = k + 1 := ⟨g - 1, by omega⟩
    obtain rfl : k = nc := by omega
    have h1 := sumW_le (r := gR M 4) (k := k)
    rw [m_X6_shareOf_L4_s, ck_0 (by omega), cl_0, hI.2.2.1, if_pos (nI_le (by omega) (by omega)), weightOf_ok (by omega), bind_s]
    unfold rSh at hs ⊢
    by_cases h0 : sumW (gR M 4) k = 0
    · rw [if_pos h0, h0, if_pos (show nI 0 = 0 from rfl)]
    · rw [if_neg h0] at hs ⊢
      rw [if_neg (nI_ne0 (by omega) (by omega)), ck_t (fl_n32 hs.nan)]
  | succ d ih =>
    intro k g h1 h2
    obtain ⟨g, rfl⟩ : ∃ k, g = k + 1 := ⟨g - 1, by omega⟩
    rw [m_X6_shareOf_L4_s, ck_0 (by omega), cl_0, hI.2.2.1, if_neg (nI_ge (by omega) (by omega)), weightOf_ok (by omega), bind_s, nI_add, nI_1]
    exact ih (k + 1) g (by omega) (by omega)
theorem sh_ok (hI : Inv (gR M 4) nc lc) (hn : n < nc) : m_X6_shareOf 3 (nI n) M = some (rSh (gR M 4) nc n) := sh_loop hI hn nc 0 fuel (by omega) (by have := hI.1; unfold fuel; omega)
end SHA
theorem f2d_ok {y : UInt32} (h : ShB y) : FP.Core.val64 (FP.f2d y) ≠ .nan := by
  have hn := h.nan
  have hf : FP.Core.fIsNaN y = false := (FP.Core.notNaN_iff32 y).mpr hn
  unfold FP.f2d
  rw [hf, if_neg (show ¬ (false = true) by decide), FP.Core.val64_f2d]
  cases hv : FP.Core.val32 y with
  | nan => exact absurd hv hn
  | inf s => exact FP.Core.Datum.noConfusion
  | fin s c q => exact FP.Core.roundRatio_ne_nan _ _ _ _ _
theorem n64_ok {z : UInt64} (h : FP.Core.val64 z ≠ .nan) : vf_n64b z := by
  show z &&& 0x7fffffffffffffff ≤ 0x7ff0000000000000
  rw [UInt64.le_iff_toNat_le, UInt64.toNat_and, show (0x7fffffffffffffff : UInt64).toNat = 2 ^ 63 - 1 from rfl, Nat.and_two_pow_sub_one_eq_mod]
  exact (FP.Core.ne_nan z).mp h
theorem gd_oD {x : UInt64} {M : Mem} : gd (oD x M) 0 = x := by
  show vf_upd (gd M) 0 x 0 = x
  simp [vf_upd]
theorem done_7 {G : Nat → Bool} {M : Mem} {x : Int32} (h : Top G M) : ∃ G' M', s_7 x G M = some (G', M') ∧ Top G' M' := by
  obtain ⟨⟨nc, lc, hI, hR⟩, -⟩ := id h
  have h8 := hI.1
  unfold s_7
  rcases arg_of (x := x) (n := nc) (by omega) with ⟨n, hn, rfl⟩ | hx
  · have hs := f2d_ok (rSh_ok (r := gR M 4) h8 hn)
    refine ⟨G, sF 3 3 0 (oD (FP.f2d (rSh (gR M 4) nc n)) M), ?_, h.qu (Qu.rf.oD.s3)⟩
    have hc : m_L_share (nI n) G M = some (0, G, oD (FP.f2d (rSh (gR M 4) nc n)) M) := by
      unfold m_L_share m_X5_share
      rw [exN_ok hR hI hn, bind_s]
      show Option.bind (Option.bind (m_X5_shareOf 0 (67 + 3 * n) M) _) _ = _
      rw [csh_ok hR hI hn]
      exact ck_t (n64_ok hs)
    have hr : m_X6_share 3 (nI n) (oD (FP.f2d (rSh (gR M 4) nc n)) M) = some (rSh (gR M 4) nc n, sF 3 3 0 (oD (FP.f2d (rSh (gR M 4) nc n)) M)) := by
      unfold m_X6_share
      rw [isNode_ok (M := oD (FP.f2d (rSh (gR M 4) nc n)) M) hI hn, bind_s, fine0, if_neg ne10, sh_ok (M := sF 3 3 0 (oD (FP.f2d (rSh (gR M 4) nc n)) M)) hI hn]
      rfl
    rw [hc, bind_s]
    show Option.bind (m_X6_share 3 (nI n) (oD (FP.f2d (rSh (gR M 4) nc n)) M)) _ = _
    rw [hr, bind_s]
    show (if gF (sF 3 3 0 (oD (FP.f2d (rSh (gR M 4) nc n)) M)) 3 3 = 0 then (if (0 : Int32) = 0 then ck (vf_n64b (FP.f2d (rSh (gR M 4) nc n))) (if Op.cmpValue (FP.dcmp (gd (oD (FP.f2d (rSh (gR M 4) nc n)) M) 0) (FP.f2d (rSh (gR M 4) nc n))) CmpOp.l = 0 then some (G, sF 3 3 0 (oD (FP.f2d (rSh (gR M 4) nc n)) M)) else none) else some (G, sF 3 3 0 (oD (FP.f2d (rSh (gR M 4) nc n)) M))) else none) = _
    rw [if_pos gF_self, if_pos rfl, ck_t (n64_ok hs), gd_oD, show FP.dcmp (FP.f2d (rSh (gR M 4) nc n)) (FP.f2d (rSh (gR M 4) nc n)) = some .eq from FP.Core.dcmp_self hs]
    exact if_pos rfl
  · refine ⟨G, sF 3 3 1 M, ?_, h.qu (Qu.rf.s3)⟩
    have hc : m_L_share x G M = some (1, G, M) := by
      unfold m_L_share m_X5_share
      rw [exN_no hR hI hx, bind_s]
      rfl
    have hr : m_X6_share 3 x M = some (0, sF 3 3 1 M) := by
      unfold m_X6_share
      rw [isNode_no hI hx, bind_s, fine1, if_pos rfl]
    rw [hc, bind_s]
    show Option.bind (m_X6_share 3 x M) _ = _
    rw [hr, bind_s]
    show (if gF (sF 3 3 1 M) 3 3 = 1 then (if (1 : Int32) = 0 then _ else some (G, sF 3 3 1 M)) else none) = _
    rw [if_pos gF_self, if_neg (by decide)]
