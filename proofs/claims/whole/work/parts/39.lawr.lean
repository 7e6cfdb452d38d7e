/-! rows of the law's own body -/
abbrev LAs (s : State) : Nat → Prop := fun q => s.heap.size ≤ q
/-- what holds all along the law -/
def LC (p : Program) (l : Launch) (s : State) (m : MethodId) (c : Code) (b L : Nat) (xs : Nat → Int32) (D : va_G) (cy : Nat → ClassId) : Prop :=
  p.tables.exec = Jvm.exec ∧ c.code = cL_law ∧ c.maxLocals = 8 ∧ s.vm.findClass RL = some m.cls ∧ (∀ w ∈ LW, w.before #[Value.ref b] s = true) ∧ KK D cy s ∧ SR s ∧ XT (LAs s) s s.heap ∧ va_Nc e2N e1N s ∧ va_X b L xs s s.heap ∧ b < s.heap.size ∧ L ≤ 2048 ∧ l.stackTraces = false
section LROWS
variable {p : Program} {l : Launch} {e : Env} {R : Room} {s : State} {m : MethodId} {args : Array Value} {below : List Frame} {meth : Method} {c : Code} {H : Heap} {locs : List Loc} {cells slots : Nat} {Q : State → Prop}
variable {cc : ByteArray} {pc : Nat} {ls : Array Slot} {rest st0 : List Value} {D : va_G} {cy : Nat → ClassId} {As : Nat → Prop} {A A1 : Nat → Nat} {H0 : Heap} {G G1 : Nat → Bool} {M M1 : Mem}
variable {y : MethodName} {b : ByteArray} {maxL nL mc ms index n : Nat} {ret : Option FieldType} {hh : List (Nat × Nat × Nat × Nat)} {rm : Room} {Qc : Array Value → State → Outcome → State → Prop} {XC : String → State → State → Prop} {free : Addr → Prop} {own : String} {a : Array Value} {av : List Value}
theorem lv_lcmp (hexec : p.tables.exec = Jvm.exec) (hb : c.code = cc) {x y : Int64} (hdg : decode cc pc = .ok (.lcmp, 1))
    (k : ∀ v : Int32, (v = 0 ↔ x = y) → W p l e R s m args below meth c H locs cells slots Q (F0 m (pc + 1) ls (.int v :: rest))) : W p l e R s m args below meth c H locs cells slots Q (F0 m pc ls (.long y :: .long x :: rest)) := by
  intro T hT X
  by_cases h1 : x > y
  · obtain ⟨t, a, b⟩ := k 1 ⟨fun h => absurd h (by decide), fun h => absurd h (by
      have := Int64.lt_iff_toInt_lt.mp h1
      intro h2
      rw [h2] at this
      omega)⟩ T hT X
    refine ⟨t, ?_, b⟩
    jvm_step X.here [X.here.top, hexec, hb, hdg, h1]
    exact a
  · by_cases h2 : x = y
    · obtain ⟨t, a, b⟩ := k 0 ⟨fun _ => h2, fun _ => rfl⟩ T hT X
      refine ⟨t, ?_, b⟩
      subst h2
      jvm_step X.here [X.here.top, hexec, hb, hdg, h1]
      exact a
    · obtain ⟨t, a, b⟩ := k (-1) ⟨fun h => absurd h (by decide), fun h => absurd h h2⟩ T hT X
      refine ⟨t, ?_, b⟩
      have h3 : (x == y) = false := beq_eq_false_iff_ne.mpr h2
      jvm_step X.here [X.here.top, hexec, hb, hdg, h1, h2, h3]
      exact a
/-- a small method's words at its call -/
theorem mkSW (n : Nat) (hts : ∀ w ∈ LW, w.before args s = true) (h1 : Cond.methodLink own index y ∈ LW) (h2 : Cond.static y ∈ LW) (h4 : Cond.initialized y.cls ∈ LW) (h5 : Cond.codeWith y b maxL ret hh ∈ LW)
    (hd : y.cls ≠ "java/lang/invoke/MethodHandle" ∧ y.cls ≠ "java/lang/invoke/VarHandle" ∧ (parseMethodDescriptor y.desc).map (fun d => d.parameters.length) = some n) (hR : rm.frames + 1 ≤ R.frames ∧ 8 + (maxL + 11) + rm.locals ≤ R.locals) : vx_CSW R s args own index y b maxL ret hh (wmW y b maxL ret hh) rm rm.cells rm.slots n := by
  refine vx_cwSW n hts (fun w h => ?_) rfl rfl rfl hd hR
  unfold va_wsS at h
  rcases List.mem_append.mp h with h | h
  · simp only [List.mem_cons, List.not_mem_nil, or_false] at h
    rcases h with rfl | rfl | rfl
    · exact ⟨h1, lw_gi _ h1⟩
    · exact ⟨h2, lw_gi _ h2⟩
    · exact ⟨h4, lw_gi _ h4⟩
  · exact gi_wmW h5 w h
theorem preN (hK : KK D cy s) (hR : SR s) (hT : XT As s H0) (hN : va_Nc e2N e1N s) (hA : ∀ q, H0.size ≤ q → As q) (hw : WD D cy As A H0 G M H locs) : ∀ U : State, U.heap = H → s.WarmedH U.vm → va_Pc av (PrN D cy A G M H.size) av.toArray U := fun U hU hW => ⟨rfl, (preUX (av := av) hK hR hT hA hw rfl U hU hW).2, hN.moved hW.alike⟩
/-- the call of a small method -/
theorem kW {w : Int32 × (Nat → Bool) × Mem} (hx : p.tables.exec = Jvm.exec) (hb : c.code = cc) (hml : c.maxLocals = nL) (hts : ∀ w ∈ LW, w.before args s = true) (hown : s.vm.findClass own = some m.cls) (hK : KK D cy s) (hR : SR s) (hT : XT As s H0) (hN : va_Nc e2N e1N s) (hA : ∀ q, H0.size ≤ q → As q) (hw : WD D cy As A H0 G M H locs)
    (hM : vx_Met l y (wmW y b maxL ret hh) rm (va_Pc av (PrN D cy A G M H.size)) (WQ D cy A G (Fr A G H.size) w) (Xx D cy A G (Fr A G H.size) M (fun _ => False)) mc ms (Fr A G H.size)) (hcw : vx_CSW R s args own index y b maxL ret hh (wmW y b maxL ret hh) rm mc ms n) (hn : av.length = n) (hl : ls.size = nL) (hst : st0 = av.reverse ++ rest) (hroom : (rest.map fun v => v.category).sum ≤ 8) (hdg : decode cc pc = .ok (.invokestatic index, 3)) (hf : cells + mc ≤ R.cells ∧ slots + ms ≤ R.slots)
    (kk : ∀ A1 : Nat → Nat, (∀ c, inL G c = true → A1 c = A c ∧ inL w.2.1 c = true) → ∀ (H1 : Heap) (locs1 : List Loc), WD D cy As A1 H0 w.2.1 w.2.2 H1 locs1 → W p l e R s m args below meth c H1 locs1 (cells + mc) (slots + ms) Q (F0 m (pc + 3) ls (.int w.1 :: rest))) : W p l e R s m args below meth c H locs cells slots Q (F0 m pc ls st0) := by
  refine vx_calli (vx_runSX ⟨hx, hb, hml, hown, hts⟩ hM hcw ⟨PrN.blind, preN hK hR hT hN hA hw⟩ rfl hn hl hst (lv_room (pc := pc) (ls := ls) (rest := st0) (m := m) hroom) hdg hf) hw.2.2 (fun q _ h => Fr_As hw hA q h) (Fr_As hw hA) (fun q _ h => Fr_As hw hA q h) (fun E ce q9 u t H1 locs1 _ _ hp => hp.elim) (fun r A1 t H1 locs1 ht _ hp hB _ _ hS => ?_)
  obtain ⟨rfl, hp⟩ := hp
  exact kk A1 hp H1 locs1 (wdX hw hA ht hB hS)
/-- one that may add a state, and answers an int -/
theorem kiG {w : Int32 × (Nat → Bool) × Mem} (hw : WD D cy As A H0 G M H locs) (hA : ∀ q, H0.size ≤ q → As q) (hr : va_Run p l e R s m args below meth c H locs cells slots mc ms (F0 m pc ls st0) rest (va_Qi (fun r' (A1 : Nat → Nat) => r' = w.1 ∧ ∀ c, inL G c = true → A1 c = A c ∧ inL w.2.1 c = true) (fun A1 t => Px D cy A1 w.2.1 (Fr A G H.size) w.2.2 t) (Fr A G H.size) a) (Fr A G H.size))
    (kk : ∀ A1 : Nat → Nat, (∀ c, inL G c = true → A1 c = A c ∧ inL w.2.1 c = true) → ∀ (H1 : Heap) (locs1 : List Loc), WD D cy As A1 H0 w.2.1 w.2.2 H1 locs1 → W p l e R s m args below meth c H1 locs1 (cells + mc) (slots + ms) Q (F0 m (pc + 3) ls (.int w.1 :: rest))) : W p l e R s m args below meth c H locs cells slots Q (F0 m pc ls st0) :=
  va_calli hr hw.2.2 (fun q _ h => Fr_As hw hA q h) (Fr_As hw hA) (fun r' A1 t H1 locs1 ht _ hp hB _ _ hS => by
    obtain ⟨rfl, hp⟩ := hp
    exact kk A1 hp H1 locs1 (wdX hw hA ht hB hS))
theorem gL (hx : p.tables.exec = Jvm.exec) (hb : c.code = cc) (hK : KK D cy s) (hw : WD D cy As A H0 G M H locs) (hdg : decode cc pc = .ok (.laload, 1))
    (kk : W p l e R s m args below meth c H locs cells slots Q (F0 m (pc + 1) ls (.long (go M 0) :: rest))) : W p l e R s m args below meth c H locs cells slots Q (F0 m pc ls (.int 0 :: .ref (A 6) :: rest)) := by
  obtain ⟨q0, he⟩ := wl_get (A := A) (cy := cy) (M := M) (sm_in (G := G) (show 6 < 8 by omega))
  rw [cont_10 rfl] at he
  exact va_lald hx hb hK.1 hw.1 q0 4 he rfl (show vp_in (0 : Int32) 1 by unfold vp_in; decide) hdg kk
theorem gD (hx : p.tables.exec = Jvm.exec) (hb : c.code = cc) (hK : KK D cy s) (hw : WD D cy As A H0 G M H locs) (hdg : decode cc pc = .ok (.daload, 1))
    (kk : W p l e R s m args below meth c H locs cells slots Q (F0 m (pc + 1) ls (.double (gd M 0) :: rest))) : W p l e R s m args below meth c H locs cells slots Q (F0 m pc ls (.int 0 :: .ref (A 7) :: rest)) := by
  obtain ⟨q0, he⟩ := wl_get (A := A) (cy := cy) (M := M) (sm_in (G := G) (show 7 < 8 by omega))
  rw [cont_11 rfl] at he
  exact va_dald hx hb hK.1 hw.1 q0 5 he rfl (show vp_in (0 : Int32) 1 by unfold vp_in; decide) hdg kk
/-- an int of the script -/
theorem xl {bA L : Nat} {xs : Nat → Int32} {i k : Nat} {v : Int32} (hx : p.tables.exec = Jvm.exec) (hb : c.code = cc) (hX : va_X bA L xs s s.heap) (hbl : bA < s.heap.size) (hL : L ≤ 2048) (hw : WD D cy (LAs s) A s.heap G M H locs) (hv : nI i + nI k = v) (hik : i + k < L) (hdg : decode cc pc = .ok (.iaload, 1))
    (kk : W p l e R s m args below meth c H locs cells slots Q (F0 m (pc + 1) ls (.int (xs (i + k)) :: rest))) : W p l e R s m args below meth c H locs cells slots Q (F0 m pc ls (.int v :: .ref bA :: rest)) := by
  rw [nI_add] at hv
  subst hv
  refine va_sld hx hb hX hbl (Nat.not_le.mpr hbl) hw.2.2 (nI_in hik (by omega)) hdg ?_
  rw [nI_clamp (by omega)]
  exact kk
end LROWS
