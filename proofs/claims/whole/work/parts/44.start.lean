/-! what the tables and the Statement give at the law's entry -/
theorem law_cls {args : Array Value} {s : State} (hts : ∀ w ∈ LW, w.before args s = true) : ∃ D : va_G, ∀ (k : Nat) (q : vw_C), vwCl[k]? = some q → u_Kn s q.1 q.2.1 q.2.2 (D.1 k) (D.2 k) := by
  obtain ⟨c0, i0, h0⟩ := u_known (C := RX0) (T := TX0) (N := 12) (n := 12) hts iwX0 (hts _ k_it_RX0)
  obtain ⟨c1, i1, h1⟩ := u_known (C := RX1) (T := TX1) (N := 6) (n := 6) hts iwX1 (hts _ k_it_RX1)
  obtain ⟨c2, i2, h2⟩ := u_known (C := RX3) (T := TX3) (N := 5) (n := 5) hts iwX3 (hts _ k_it_RX3)
  obtain ⟨c3, i3, h3⟩ := u_known (C := RX4) (T := TX4) (N := 3) (n := 3) hts iwX4 (hts _ k_it_RX4)
  obtain ⟨c4, i4, h4⟩ := u_known (C := RX5) (T := TX5) (N := 2) (n := 2) hts iwX5 (hts _ k_it_RX5)
  obtain ⟨c5, i5, h5⟩ := u_known (C := RX6) (T := TX6) (N := 5) (n := 5) hts iwX6 (hts _ k_it_RX6)
  refine ⟨(fun k => if k = 0 then c0 else if k = 1 then c1 else if k = 2 then c2 else if k = 3 then c3 else if k = 4 then c4 else c5, fun k => if k = 0 then i0 else if k = 1 then i1 else if k = 2 then i2 else if k = 3 then i3 else if k = 4 then i4 else i5), ?_⟩
  intro k q hq
  match k, hq with
  | 0, hq => cases hq; exact h0
  | 1, hq => cases hq; exact h1
  | 2, hq => cases hq; exact h2
  | 3, hq => cases hq; exact h3
  | 4, hq => cases hq; exact h4
  | 5, hq => cases hq; exact h5
  | k + 6, hq => simp [vwCl] at hq
theorem law_arr {args : Array Value} {s : State} {ty : FieldType} (h : (Cond.arrayClass ty).before args s = true) (hs : ∀ cA, s.vm.findClass ("[" ++ ty.toString) = some cA → va_RA s cA ty) : ∃ cA : ClassId, ArrOfT s cA ty ∧ va_RA s cA ty := by
  obtain ⟨cA, kA, comp, h1, h2, h3⟩ := Cond.arrayClass_spec h
  exact ⟨cA, fun n z => ⟨fun k h => (by cases h), kA, h2, comp, h3⟩, hs cA h1⟩
theorem law_arrO {s : State} {C : String} (h : va_AO C s) : ∃ cA : ClassId, ArrOfT s cA (.object C) ∧ va_RA s cA (.object C) := by
  obtain ⟨comp, cA, kA, h1, h2, h3, h4, h5⟩ := Cond.arrayOver_spec h
  exact ⟨cA, fun n z => ⟨fun k h => (by cases h), kA, h3, comp, h4⟩, kA, comp, h3, h4, h1, h5⟩
theorem law_KK {args : Array Value} {s : State} (hts0 : ∀ w ∈ lw_tbl, w.before args s = true) : ∃ (D : va_G) (cy : Nat → ClassId), KK D cy s := by
  have hts : ∀ w ∈ LW, w.before args s = true := fun w h => hts0 w (List.mem_filter.mp h).1
  obtain ⟨D, hD⟩ := law_cls hts
  have o0 : va_AO RX0 s := va_AO.of (hts0 (Cond.arrayOver (.object RX0)) (by decide +kernel))
  have o1 : va_AO RX1 s := va_AO.of (hts0 (Cond.arrayOver (.object RX1)) (by decide +kernel))
  have o3 : va_AO RX3 s := va_AO.of (hts0 (Cond.arrayOver (.object RX3)) (by decide +kernel))
  obtain ⟨d0, e0⟩ := law_arr (hts _ k_ac_int) (fun cA h => h)
  obtain ⟨d1, e1⟩ := law_arrO o0
  obtain ⟨d2, e2⟩ := law_arrO o1
  obtain ⟨d3, e3⟩ := law_arrO o3
  obtain ⟨d4, e4⟩ := law_arr (hts _ k_ac_long) (fun cA h => h)
  obtain ⟨d5, e5⟩ := law_arr (hts _ k_ac_double) (fun cA h => h)
  refine ⟨D, fun k => if k = 0 then d0 else if k = 1 then d1 else if k = 2 then d2 else if k = 3 then d3 else if k = 4 then d4 else d5, ⟨hD, ?_⟩, ?_⟩
  · intro k q hq
    match k, hq with
    | 0, hq => cases hq; exact e0
    | 1, hq => cases hq; exact e1
    | 2, hq => cases hq; exact e2
    | 3, hq => cases hq; exact e3
    | 4, hq => cases hq; exact e4
    | 5, hq => cases hq; exact e5
    | k + 6, hq => simp [tyK] at hq
  · exact ⟨va_Nw.of rfl (hts0 _ (by decide +kernel)), va_Nw.of rfl (hts0 _ (by decide +kernel)), va_Nw.of rfl (hts0 _ (by decide +kernel)), va_Nw.of rfl (hts0 _ (by decide +kernel)), va_Nw.of rfl (hts0 _ (by decide +kernel)), va_Nw.of rfl (hts0 _ (by decide +kernel)), va_Nw.of rfl (hts0 _ (by decide +kernel)), o0, o1, o3⟩
theorem law_SR {args : Array Value} {s : State} (hts0 : ∀ w ∈ lw_tbl, w.before args s = true) : SR s := by
  refine ⟨fun q hq => ?_, fun w hw => va_Nw.of (SR_t1 w hw) (hts0 w ((show ∀ w ∈ B1, w ∈ lw_tbl by decide +kernel) w hw)), fun w hw => va_Nw.of (SR_t2 w hw) (hts0 w ((show ∀ w ∈ B2, w ∈ lw_tbl by decide +kernel) w hw))⟩
  have h := hts0 _ ((show ∀ q ∈ SRl, Cond.stringRef RX5 q.1 q.2 ∈ lw_tbl by decide +kernel) q hq)
  have hc : ∃ cur, s.vm.findClass RX5 = some cur := by
    obtain ⟨cur, k, h1, -⟩ := Cond.instantiable_spec (hts0 _ (List.mem_filter.mp k_it_RX5).1)
    exact ⟨cur, h1⟩
  obtain ⟨cur, hcur⟩ := hc
  obtain ⟨k, cf, i, a, h1, h2, h3, h4, h5, h6⟩ := Cond.stringRef_spec hcur h
  exact ⟨a, vk_R.of h h6⟩
theorem law_XT {args : Array Value} {s : State} (hts0 : ∀ w ∈ lw_tbl, w.before args s = true) (hgv : (Jvm.Cond.and given_1 narrow_1).before args s = true) : XT (LAs s) s s.heap := by
  have hs := flat_of_before _ hgv
  exact ⟨vx_Zqof (hts0 _ (by decide +kernel)) (hts0 _ (by decide +kernel)) (hs _ (by decide +kernel)) (fun a h1 h2 => absurd h1 (Nat.not_lt.mpr h2)), vx_Zqof (hts0 _ (by decide +kernel)) (hts0 _ (by decide +kernel)) (hs _ (by decide +kernel)) (fun a h1 h2 => absurd h1 (Nat.not_lt.mpr h2))⟩
theorem law_Nc {args : Array Value} {s : State} (hgv : (Jvm.Cond.and given_1 narrow_1).before args s = true) : va_Nc e2N e1N s := va_Nc.of (flat_of_before _ hgv (Cond.not (Cond.castable e2N e1N)) (by decide +kernel))
