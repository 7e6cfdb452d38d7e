/-- a method's words: its code, and all the good words of the tables -/
abbrev wm (y : MethodName) (b : ByteArray) (n : Nat) (r : Option FieldType) : List Cond := Cond.code y b n r :: LW
theorem lw_gi : ∀ w ∈ LW, (w.onTables && w.keeps) = true ∨ ∃ ty, w = .arrayClass ty := fun w h => good_of_word (lw_good w h)
theorem gi_wm {y : MethodName} {b : ByteArray} {n : Nat} {r : Option FieldType} (h5 : Cond.code y b n r ∈ LW) : GoodIn LW (wm y b n r) := fun w h => by
  rcases List.mem_cons.mp h with rfl | h
  · exact ⟨h5, lw_gi _ h5⟩
  · exact ⟨h, lw_gi _ h⟩
section CALLS
variable {p : Program} {l : Launch} {e : Env} {R : Room} {s : State} {m : MethodId} {args : Array Value} {below : List Frame} {meth : Method} {c : Code} {H : Heap} {locs : List Loc} {cells slots : Nat} {Q : State → Prop}
variable {cc : ByteArray} {pc : Nat} {ls : Array Slot} {rest st0 : List Value} {D : va_G} {cy : Nat → ClassId} {As : Nat → Prop} {A : Nat → Nat} {H0 : Heap} {G : Nat → Bool} {M : Mem}
variable {y : MethodName} {b : ByteArray} {maxL nL mc ms index : Nat} {ret : Option FieldType} {rm : Room} {Pc : Array Value → State → Prop} {Qc : Array Value → State → Outcome → State → Prop} {free : Addr → Prop} {own C : String}
theorem mkV (n : Nat) (hts : ∀ w ∈ LW, w.before args s = true) (h1 : Cond.methodLink own index y ∈ LW) (h2 : Cond.instanceMethod y ∈ LW) (h3 : Cond.selects C y y ∈ LW) (h4 : Cond.initialized C ∈ LW) (h5 : Cond.code y b maxL ret ∈ LW)
    (hd : y.cls = C ∧ y.cls ≠ "java/lang/invoke/MethodHandle" ∧ y.cls ≠ "java/lang/invoke/VarHandle" ∧ (parseMethodDescriptor y.desc).map (fun d => d.parameters.length) = some n) (hR : rm.frames + 1 ≤ R.frames ∧ 8 + (maxL + 11) + rm.locals ≤ R.locals) : CallW R s args own C index y b maxL ret (wm y b maxL ret) rm rm.cells rm.slots n := by
  refine cwV n hts (fun w h => ?_) rfl rfl rfl hd hR
  rcases List.mem_append.mp h with h | h
  · simp only [List.mem_cons, List.not_mem_nil, or_false] at h
    rcases h with rfl | rfl | rfl | rfl
    · exact ⟨h1, lw_gi _ h1⟩
    · exact ⟨h2, lw_gi _ h2⟩
    · exact ⟨h3, lw_gi _ h3⟩
    · exact ⟨h4, lw_gi _ h4⟩
  · exact gi_wm h5 w h
theorem mkS (n : Nat) (hts : ∀ w ∈ LW, w.before args s = true) (h1 : Cond.methodLink own index y ∈ LW) (h2 : Cond.static y ∈ LW) (h4 : Cond.initialized C ∈ LW) (h5 : Cond.code y b maxL ret ∈ LW)
    (hd : y.cls = C ∧ y.cls ≠ "java/lang/invoke/MethodHandle" ∧ y.cls ≠ "java/lang/invoke/VarHandle" ∧ (parseMethodDescriptor y.desc).map (fun d => d.parameters.length) = some n) (hR : rm.frames + 1 ≤ R.frames ∧ 8 + (maxL + 11) + rm.locals ≤ R.locals) : CallB R s args own index y b maxL ret (wm y b maxL ret) rm rm.cells rm.slots n ∧ (Cond.static y).before args s = true := by
  obtain ⟨rfl, hd⟩ := hd
  exact ⟨callB_of n hts (gi_wm h5) rfl rfl rfl (hts _ h4) (hts _ h1) hd hR, hts _ h2⟩
theorem mkSN (n : Nat) {host : String} (hts : ∀ w ∈ LW, w.before args s = true) (h1 : va_Nw (.methodLinkNest own index y host) s) (h2 : Cond.static y ∈ LW) (h4 : Cond.initialized C ∈ LW) (h5 : Cond.code y b maxL ret ∈ LW)
    (hd : y.cls = C ∧ y.cls ≠ "java/lang/invoke/MethodHandle" ∧ y.cls ≠ "java/lang/invoke/VarHandle" ∧ (parseMethodDescriptor y.desc).map (fun d => d.parameters.length) = some n) (hR : rm.frames + 1 ≤ R.frames ∧ 8 + (maxL + 11) + rm.locals ≤ R.locals) : va_CN R s args own index y host b maxL ret (wm y b maxL ret) rm rm.cells rm.slots n ∧ (Cond.static y).before args s = true ∧ True := by
  obtain ⟨rfl, hd⟩ := hd
  exact ⟨va_cnB n hts (gi_wm h5) rfl rfl rfl h1 (hts _ h4) hd hR, hts _ h2, trivial⟩
theorem preU {sz : Nat} {av : List Value} (hK : KK D cy s) (hw : WD D cy As A H0 G M H locs) (hz : H.size = sz) : ∀ U : State, U.heap = H → s.WarmedH U.vm → va_Pc av (Pr D cy A G M sz) av.toArray U := fun U hU hW => ⟨rfl, by rw [hU]; exact hz, by rw [hU]; exact hw.1, hK.warm hW, hw.2.1.weaken (fun _ _ _ _ => trivial)⟩
theorem recvT (hK : KK D cy s) (hw : WD D cy As A H0 G M H locs) {k c0 : Nat} (hc : TT G k c0) (h6 : k < 5) {C : String} {T : u_T} {N : Nat} (hcl : vwCl[k]? = some (C, T, N)) : ∃ cellB : Cell, H[A c0]? = some cellB ∧ cellB.vm.isStatics = false ∧ s.vm.findClass C = some cellB.cls := by
  obtain ⟨q0, he⟩ := wl_get (A := A) (cy := cy) (M := M) hc.2
  have hk : k = 0 ∨ k = 1 ∨ k = 2 ∨ k = 3 ∨ k = 4 := by omega
  obtain ⟨fs, hfs⟩ : ∃ fs, cont A cy G M c0 = .inr (k, fs) := by
    rcases hk with rfl | rfl | rfl | rfl | rfl
    · exact ⟨_, cont_0 hc.1⟩
    · exact ⟨_, cont_1 hc.1⟩
    · exact ⟨_, cont_2 hc.1⟩
    · exact ⟨_, cont_3 hc.1⟩
    · exact ⟨_, cont_4 hc.1⟩
  rw [hfs] at he
  exact va_recv (q := (C, T, N)) hK.1 hw.1 hcl he
theorem rV (hx : p.tables.exec = Jvm.exec) (hb : c.code = cc) (hml : c.maxLocals = nL) (hts : ∀ w ∈ LW, w.before args s = true) (hown : s.vm.findClass own = some m.cls) (hK : KK D cy s) (hw : WD D cy As A H0 G M H locs) {c0 : Nat} {av : List Value}
    (hM : Met l y (wm y b maxL ret) rm (va_Pc (.ref (A c0) :: av) (Pr D cy A G M H.size)) Qc mc ms free) {k : Nat} (hc : TT G k c0) (h6 : k < 5) {T : u_T} {N : Nat} (hcl : vwCl[k]? = some (C, T, N)) {n : Nat} (hcw : CallW R s args own C index y b maxL ret (wm y b maxL ret) rm mc ms n) (hn : av.length = n) (hl : ls.size = nL) (hst : st0 = av.reverse ++ .ref (A c0) :: rest) (hroom : (rest.map fun v => v.category).sum ≤ 8) (hdg : decode cc pc = .ok (.invokevirtual index, 3)) (hf : cells + mc ≤ R.cells ∧ slots + ms ≤ R.slots) :
    va_Run p l e R s m args below meth c H locs cells slots mc ms (F0 m pc ls st0) rest (Qc (Value.ref (A c0) :: av).toArray) free :=
  va_runV ⟨hx, hb, hml, hown, hts⟩ hM hcw ⟨Pr.blind, recvT hK hw hc h6 hcl, preU hK hw rfl⟩ rfl hn hl hst (lv_room (pc := pc) (ls := ls) (rest := st0) (m := m) hroom) hdg hf
theorem rS (hx : p.tables.exec = Jvm.exec) (hb : c.code = cc) (hml : c.maxLocals = nL) (hts : ∀ w ∈ LW, w.before args s = true) (hown : s.vm.findClass own = some m.cls) (hK : KK D cy s) (hw : WD D cy As A H0 G M H locs) {av : List Value}
    (hM : Met l y (wm y b maxL ret) rm (va_Pc av (Pr D cy A G M H.size)) Qc mc ms free) {n : Nat} (hcw : CallB R s args own index y b maxL ret (wm y b maxL ret) rm mc ms n ∧ (Cond.static y).before args s = true) (hn : av.length = n) (hl : ls.size = nL) (hst : st0 = av.reverse ++ rest) (hroom : (rest.map fun v => v.category).sum ≤ 8) (hdg : decode cc pc = .ok (.invokestatic index, 3)) (hf : cells + mc ≤ R.cells ∧ slots + ms ≤ R.slots) :
    va_Run p l e R s m args below meth c H locs cells slots mc ms (F0 m pc ls st0) rest (Qc av.toArray) free :=
  va_runS ⟨hx, hb, hml, hown, hts⟩ hM hcw ⟨Pr.blind, preU hK hw rfl⟩ rfl hn hl hst (lv_room (pc := pc) (ls := ls) (rest := st0) (m := m) hroom) hdg hf
theorem rSN {host : String} (hx : p.tables.exec = Jvm.exec) (hb : c.code = cc) (hml : c.maxLocals = nL) (hts : ∀ w ∈ LW, w.before args s = true) (hown : s.vm.findClass own = some m.cls) (hK : KK D cy s) (hw : WD D cy As A H0 G M H locs) {av : List Value}
    (hM : Met l y (wm y b maxL ret) rm (va_Pc av (Pr D cy A G M H.size)) Qc mc ms free) {n : Nat} (hcw : va_CN R s args own index y host b maxL ret (wm y b maxL ret) rm mc ms n ∧ (Cond.static y).before args s = true ∧ True) (hn : av.length = n) (hl : ls.size = nL) (hst : st0 = av.reverse ++ rest) (hroom : (rest.map fun v => v.category).sum ≤ 8) (hdg : decode cc pc = .ok (.invokestatic index, 3)) (hf : cells + mc ≤ R.cells ∧ slots + ms ≤ R.slots) :
    va_Run p l e R s m args below meth c H locs cells slots mc ms (F0 m pc ls st0) rest (Qc av.toArray) free :=
  va_runSN ⟨hx, hb, hml, hown, hts⟩ hM hcw ⟨Pr.blind, preU hK hw rfl⟩ rfl hn hl hst (lv_room (pc := pc) (ls := ls) (rest := st0) (m := m) hroom) hdg hf
/-- the world behind a call -/
theorem wdB {M1 : Mem} {t : State} {H1 : Heap} {locs1 : List Loc} (hw : WD D cy As A H0 G M H locs) (hA : ∀ q, H0.size ≤ q → As q) (ht : t.heap = H1) (hB : Po D cy A G (Fr A G H.size) M1 t) (hS : va_S As H0 H1 locs1) : WD D cy As A H0 G M1 H1 locs1 :=
  ⟨by rw [← ht]; exact hB.1, hB.2.2.weaken (fun _ _ _ h => Fr_As hw hA _ h), hS⟩
variable {M1 : Mem} {a : Array Value}
theorem ki {r : Int32} (hw : WD D cy As A H0 G M H locs) (hA : ∀ q, H0.size ≤ q → As q) (hr : va_Run p l e R s m args below meth c H locs cells slots 0 0 (F0 m pc ls st0) rest (va_Qi (fun (r' : Int32) (u : Mem) => r' = r ∧ u = M1) (Po D cy A G (Fr A G H.size)) (Fr A G H.size) a) (Fr A G H.size))
    (kk : ∀ (H1 : Heap) (locs1 : List Loc), WD D cy As A H0 G M1 H1 locs1 → W p l e R s m args below meth c H1 locs1 cells slots Q (F0 m (pc + 3) ls (.int r :: rest))) : W p l e R s m args below meth c H locs cells slots Q (F0 m pc ls st0) :=
  va_calli hr hw.2.2 (fun q _ h => Fr_As hw hA q h) (Fr_As hw hA) (fun r' u t H1 locs1 ht _ hp hB _ _ hS => by
    obtain ⟨rfl, rfl⟩ := hp
    exact kk H1 locs1 (wdB hw hA ht hB hS))
theorem kl {r : Int64} (hw : WD D cy As A H0 G M H locs) (hA : ∀ q, H0.size ≤ q → As q) (hr : va_Run p l e R s m args below meth c H locs cells slots 0 0 (F0 m pc ls st0) rest (va_Ql (fun (r' : Int64) (u : Mem) => r' = r ∧ u = M1) (Po D cy A G (Fr A G H.size)) (Fr A G H.size) a) (Fr A G H.size))
    (kk : ∀ (H1 : Heap) (locs1 : List Loc), WD D cy As A H0 G M1 H1 locs1 → W p l e R s m args below meth c H1 locs1 cells slots Q (F0 m (pc + 3) ls (.long r :: rest))) : W p l e R s m args below meth c H locs cells slots Q (F0 m pc ls st0) :=
  va_calll hr hw.2.2 (fun q _ h => Fr_As hw hA q h) (Fr_As hw hA) (fun r' u t H1 locs1 ht _ hp hB _ _ hS => by
    obtain ⟨rfl, rfl⟩ := hp
    exact kk H1 locs1 (wdB hw hA ht hB hS))
theorem kf {r : UInt32} (hw : WD D cy As A H0 G M H locs) (hA : ∀ q, H0.size ≤ q → As q) (hr : va_Run p l e R s m args below meth c H locs cells slots 0 0 (F0 m pc ls st0) rest (va_Qf (fun (r' : UInt32) (u : Mem) => r' = r ∧ u = M1) (Po D cy A G (Fr A G H.size)) (Fr A G H.size) a) (Fr A G H.size))
    (kk : ∀ (H1 : Heap) (locs1 : List Loc), WD D cy As A H0 G M1 H1 locs1 → W p l e R s m args below meth c H1 locs1 cells slots Q (F0 m (pc + 3) ls (.float r :: rest))) : W p l e R s m args below meth c H locs cells slots Q (F0 m pc ls st0) :=
  va_callf hr hw.2.2 (fun q _ h => Fr_As hw hA q h) (Fr_As hw hA) (fun r' u t H1 locs1 ht _ hp hB _ _ hS => by
    obtain ⟨rfl, rfl⟩ := hp
    exact kk H1 locs1 (wdB hw hA ht hB hS))
theorem kv (hw : WD D cy As A H0 G M H locs) (hA : ∀ q, H0.size ≤ q → As q) (hr : va_Run p l e R s m args below meth c H locs cells slots 0 0 (F0 m pc ls st0) rest (va_Qv (fun (u : Mem) => u = M1) (Po D cy A G (Fr A G H.size)) (Fr A G H.size) a) (Fr A G H.size))
    (kk : ∀ (H1 : Heap) (locs1 : List Loc), WD D cy As A H0 G M1 H1 locs1 → W p l e R s m args below meth c H1 locs1 cells slots Q (F0 m (pc + 3) ls rest)) : W p l e R s m args below meth c H locs cells slots Q (F0 m pc ls st0) :=
  va_callv hr hw.2.2 (fun q _ h => Fr_As hw hA q h) (Fr_As hw hA) (fun u t H1 locs1 ht _ hp hB _ _ hS => by
    subst hp
    exact kk H1 locs1 (wdB hw hA ht hB hS))
theorem kq {r : Option Nat} (hw : WD D cy As A H0 G M H locs) (hA : ∀ q, H0.size ≤ q → As q) (hr : va_Run p l e R s m args below meth c H locs cells slots 0 0 (F0 m pc ls st0) rest (va_Qq (fun (r' : Option Nat) (u : Mem) => r' = r.map A ∧ u = M1) (Po D cy A G (Fr A G H.size)) (Fr A G H.size) a) (Fr A G H.size))
    (kn : r = none → ∀ (H1 : Heap) (locs1 : List Loc), WD D cy As A H0 G M1 H1 locs1 → W p l e R s m args below meth c H1 locs1 cells slots Q (F0 m (pc + 3) ls (.null :: rest)))
    (kk : ∀ x : Nat, r = some x → ∀ (H1 : Heap) (locs1 : List Loc), WD D cy As A H0 G M1 H1 locs1 → W p l e R s m args below meth c H1 locs1 cells slots Q (F0 m (pc + 3) ls (.ref (A x) :: rest))) : W p l e R s m args below meth c H locs cells slots Q (F0 m pc ls st0) :=
  va_callq hr hw.2.2 (fun q _ h => Fr_As hw hA q h) (Fr_As hw hA) (fun r' u t H1 locs1 ht _ hp hB _ _ hS => by
    obtain ⟨h1, rfl⟩ := hp
    cases r with
    | none => subst h1; exact kn rfl H1 locs1 (wdB hw hA ht hB hS)
    | some x => subst h1; exact kk x rfl H1 locs1 (wdB hw hA ht hB hS))
theorem kqs {x : Nat} (hw : WD D cy As A H0 G M H locs) (hA : ∀ q, H0.size ≤ q → As q) (hr : va_Run p l e R s m args below meth c H locs cells slots 0 0 (F0 m pc ls st0) rest (va_Qq (fun (r' : Option Nat) (u : Mem) => r' = Option.map A (some x) ∧ u = M1) (Po D cy A G (Fr A G H.size)) (Fr A G H.size) a) (Fr A G H.size))
    (kk : ∀ (H1 : Heap) (locs1 : List Loc), WD D cy As A H0 G M1 H1 locs1 → W p l e R s m args below meth c H1 locs1 cells slots Q (F0 m (pc + 3) ls (.ref (A x) :: rest))) : W p l e R s m args below meth c H locs cells slots Q (F0 m pc ls st0) :=
  kq (r := some x) hw hA hr (fun h => nomatch h) (fun y hy => by cases hy; exact kk)
/-- a method's ends -/
theorem eI {v : Int32} (hx : p.tables.exec = Jvm.exec) (hb : c.code = cc) (hr : meth.sig.returnType = some .int) (hlocks : meth.locks = false) (hK : KK D cy s) (hw : WD D cy (Fr A G s.heap.size) A s.heap G M H locs) (hdg : decode cc pc = .ok (.ireturn, 1)) :
    W p l e R s m args below meth c H locs cells slots (MQ below (va_Qi (fun (r' : Int32) (u : Mem) => r' = v ∧ u = M) (Po D cy A G (Fr A G s.heap.size)) (Fr A G s.heap.size)) args s cells slots (Fr A G s.heap.size)) (F0 m pc ls [.int v]) :=
  W.iret hx hb hr (fun t ht hW => ⟨⟨v, M, rfl, ⟨rfl, rfl⟩, by rw [ht]; exact hw.1, hK.warm hW, hw.2.1⟩, hw.2.2.F ht⟩) hw.2.2.2.2 hdg hlocks
theorem eZ {v : Int32} (hz : zb v) (hx : p.tables.exec = Jvm.exec) (hb : c.code = cc) (hr : meth.sig.returnType = some .boolean) (hlocks : meth.locks = false) (hK : KK D cy s) (hw : WD D cy (Fr A G s.heap.size) A s.heap G M H locs) (hdg : decode cc pc = .ok (.ireturn, 1)) :
    W p l e R s m args below meth c H locs cells slots (MQ below (va_Qi (fun (r' : Int32) (u : Mem) => r' = v ∧ u = M) (Po D cy A G (Fr A G s.heap.size)) (Fr A G s.heap.size)) args s cells slots (Fr A G s.heap.size)) (F0 m pc ls [.int v]) :=
  W.zret hx hb hr (zb_n hz) (fun t ht hW => ⟨⟨v, M, rfl, ⟨rfl, rfl⟩, by rw [ht]; exact hw.1, hK.warm hW, hw.2.1⟩, hw.2.2.F ht⟩) hw.2.2.2.2 hdg hlocks
theorem eL {v : Int64} (hx : p.tables.exec = Jvm.exec) (hb : c.code = cc) (hr : meth.sig.returnType = some .long) (hlocks : meth.locks = false) (hK : KK D cy s) (hw : WD D cy (Fr A G s.heap.size) A s.heap G M H locs) (hdg : decode cc pc = .ok (.lreturn, 1)) :
    W p l e R s m args below meth c H locs cells slots (MQ below (va_Ql (fun (r' : Int64) (u : Mem) => r' = v ∧ u = M) (Po D cy A G (Fr A G s.heap.size)) (Fr A G s.heap.size)) args s cells slots (Fr A G s.heap.size)) (F0 m pc ls [.long v]) :=
  W.lret hx hb hr (fun t ht hW => ⟨⟨v, M, rfl, ⟨rfl, rfl⟩, by rw [ht]; exact hw.1, hK.warm hW, hw.2.1⟩, hw.2.2.F ht⟩) hw.2.2.2.2 hdg hlocks
theorem eF {v : UInt32} (hx : p.tables.exec = Jvm.exec) (hb : c.code = cc) (hr : meth.sig.returnType = some .float) (hlocks : meth.locks = false) (hK : KK D cy s) (hw : WD D cy (Fr A G s.heap.size) A s.heap G M H locs) (hdg : decode cc pc = .ok (.freturn, 1)) :
    W p l e R s m args below meth c H locs cells slots (MQ below (va_Qf (fun (r' : UInt32) (u : Mem) => r' = v ∧ u = M) (Po D cy A G (Fr A G s.heap.size)) (Fr A G s.heap.size)) args s cells slots (Fr A G s.heap.size)) (F0 m pc ls [.float v]) :=
  W.fret hx hb hr (fun t ht hW => ⟨⟨v, M, rfl, ⟨rfl, rfl⟩, by rw [ht]; exact hw.1, hK.warm hW, hw.2.1⟩, hw.2.2.F ht⟩) hw.2.2.2.2 hdg hlocks
theorem eV (hx : p.tables.exec = Jvm.exec) (hb : c.code = cc) (hr : meth.sig.returnType = none) (hlocks : meth.locks = false) (hK : KK D cy s) (hw : WD D cy (Fr A G s.heap.size) A s.heap G M H locs) (hdg : decode cc pc = .ok (.return_, 1)) :
    W p l e R s m args below meth c H locs cells slots (MQ below (va_Qv (fun (u : Mem) => u = M) (Po D cy A G (Fr A G s.heap.size)) (Fr A G s.heap.size)) args s cells slots (Fr A G s.heap.size)) (F0 m pc ls []) :=
  W.vret hx hb hr (fun t ht hW => ⟨⟨M, rfl, rfl, by rw [ht]; exact hw.1, hK.warm hW, hw.2.1⟩, hw.2.2.F ht⟩) hw.2.2.2.2 hdg hlocks
theorem eN {n : String} (hx : p.tables.exec = Jvm.exec) (hb : c.code = cc) (hr : meth.sig.returnType = some (.object n)) (hlocks : meth.locks = false) (hK : KK D cy s) (hw : WD D cy (Fr A G s.heap.size) A s.heap G M H locs) (hdg : decode cc pc = .ok (.areturn, 1)) :
    W p l e R s m args below meth c H locs cells slots (MQ below (va_Qq (fun (r' : Option Nat) (u : Mem) => r' = Option.map A none ∧ u = M) (Po D cy A G (Fr A G s.heap.size)) (Fr A G s.heap.size)) args s cells slots (Fr A G s.heap.size)) (F0 m pc ls [.null]) :=
  W.aret hx hb hr (Or.inl ⟨n, rfl⟩) (Or.inl rfl) (fun t ht hW => ⟨⟨none, M, rfl, ⟨rfl, rfl⟩, by rw [ht]; exact hw.1, hK.warm hW, hw.2.1⟩, hw.2.2.F ht⟩) hw.2.2.2.2 hdg hlocks
theorem eQ {n : String} {x : Nat} (hx : p.tables.exec = Jvm.exec) (hb : c.code = cc) (hr : meth.sig.returnType = some (.object n)) (hlocks : meth.locks = false) (hK : KK D cy s) (hw : WD D cy (Fr A G s.heap.size) A s.heap G M H locs) (hdg : decode cc pc = .ok (.areturn, 1)) :
    W p l e R s m args below meth c H locs cells slots (MQ below (va_Qq (fun (r' : Option Nat) (u : Mem) => r' = Option.map A (some x) ∧ u = M) (Po D cy A G (Fr A G s.heap.size)) (Fr A G s.heap.size)) args s cells slots (Fr A G s.heap.size)) (F0 m pc ls [.ref (A x)]) :=
  W.aret hx hb hr (Or.inl ⟨n, rfl⟩) (Or.inr ⟨_, rfl⟩) (fun t ht hW => ⟨⟨some (A x), M, rfl, ⟨rfl, rfl⟩, by rw [ht]; exact hw.1, hK.warm hW, hw.2.1⟩, hw.2.2.F ht⟩) hw.2.2.2.2 hdg hlocks
end CALLS
theorem Fr_hi {A : Nat → Nat} {G : Nat → Bool} {sz : Nat} : ∀ q, sz ≤ q → Fr A G sz q := fun _ h => Or.inr h
/-- a method's contract out of its body -/
theorem ofB {l : Launch} {D : va_G} {cy : Nat → ClassId} {A : Nat → Nat} {G : Nat → Bool} {M : Mem} {y : MethodName} {b : ByteArray} {maxL : Nat} {ret : Option FieldType} {rm : Room} {av : List Value} {Qc : Nat → Array Value → State → Outcome → State → Prop} {sz : Nat} (hy : plainName y.cls = true) (hn : (lg_sl av).length ≤ maxL)
    (body : ∀ (p : Program) (e : Env) (s : State) (m : MethodId) (below : List Frame) (meth : Method) (c : Code), p.tables.exec = Jvm.exec → c.code = b → meth.sig.returnType = ret → (∀ w ∈ LW, w.before av.toArray s = true) → s.vm.findClass y.cls = some m.cls → meth.locks = false → c.maxLocals = maxL → meth.name = y.name → KK D cy s → WD D cy (Fr A G s.heap.size) A s.heap G M s.heap [] → ∀ ls : Array Slot, lv_has ls maxL (lv_args 0 av) →
      W p l e (headSpec (wm y b maxL ret) rm).room s m av.toArray below meth c s.heap [] 0 0 (MQ below (Qc s.heap.size) av.toArray s 0 0 (Fr A G s.heap.size)) (F0 m 0 ls [])) : Met l y (wm y b maxL ret) rm (va_Pc av (Pr D cy A G M sz)) (Qc sz) 0 0 (Fr A G sz) := by
  refine Met.ofW (cc := b) (maxL := maxL) (ret := ret) hy rfl ?_
  intro p e s m args below meth c s₁ B hml hv
  obtain ⟨rfl, hsz, hP, hK, hD0⟩ := hv
  have hts0 := atoms_spec (ws := wm y b maxL ret) B.pre
  subst hsz
  have hl := lv_entry av (n := maxL) hn
  rw [lg_entry_eq]
  exact body p e s m below meth c B.exec B.bytes B.returns (fun w h => hts0 w (List.mem_cons_of_mem _ h)) (findClass_of_methodNamed B.named) B.notSynchronized hml (name_of_methodNamed B.named B.method).1 hK ⟨hP, wl_Fr hD0, va_S.rf⟩ _ hl
/-- loops: the mirrors' fuel -/
def fuel : Nat := 100000
