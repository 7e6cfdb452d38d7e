/-! CONSTRUCTORS, over worlds that are lists -/
def PrW (D : va_G) (cy : Nat → ClassId) (ws : va_W) (sz : Nat) : State → Prop := fun U => U.heap.size = sz ∧ va_P D vwCl ws U.heap ∧ KK D cy U ∧ va_D (fun _ => True) ws
theorem PrW.blind {D : va_G} {cy : Nat → ClassId} {ws : va_W} {sz : Nat} {av : List Value} : FrameBlind (va_Pc av (PrW D cy ws sz)) := fun a U g mk q => by
  obtain ⟨q0, q1, qP, qK, qD⟩ := q
  exact ⟨q0, q1, qP, qK.same rfl, qD⟩
abbrev zrow (cy : Nat → ClassId) (n : Nat) : va_E := .inl (cy 0, n, .inl (fun _ => 0))
abbrev bN : va_E := .inr (1, [.int 0, .int 0, .int 0, .int 0, .null, .null])
abbrev bL : va_E := .inr (0, [.int 0, .int 0, .int 0, .int 0, .int 0, .int 0, .int 0, .int 0, .null, .null, .null, .null])
abbrev bS : va_E := .inr (2, [.int 0, .int 0, .int 0, .null, .null])
abbrev bU : va_E := .inr (3, [.int 0, .int 0, .null])
abbrev bX : va_E := .inr (4, [.null, .null])
abbrev bM : va_E := .inr (5, [.null, .null, .int 0, .int 0, .long 0])
abbrev nodeL (cy : Nat → ClassId) (h a b : Nat) : va_W := [(h, .inr (1, [.int 0, .int 0, .int 0, .int 0, .ref a, .ref b])), (a, zrow cy 160), (b, zrow cy 100)]
abbrev ledL (cy : Nat → ClassId) (n : Int32) (h p a s m : Nat) : va_W := [(h, .inr (0, [.int n, .int 0, .int 0, .int 0, .int 0, .int 0, .int 0, .int 0, .ref p, .ref a, .ref s, .ref m])), (p, zrow cy 40), (a, zrow cy 40), (s, zrow cy 41), (m, zrow cy 205)]
section CT
variable {p : Program} {l : Launch} {e : Env} {R : Room} {s : State} {m : MethodId} {args : Array Value} {below : List Frame} {meth : Method} {c : Code} {H : Heap} {locs : List Loc} {cells slots : Nat} {Q : State → Prop}
variable {cc : ByteArray} {pc : Nat} {ls : Array Slot} {rest st0 : List Value} {D : va_G} {cy : Nat → ClassId} {As : Nat → Prop} {H0 : Heap} {ws : va_W}
variable {y : MethodName} {b : ByteArray} {maxL nL mc ms index : Nat} {ret : Option FieldType} {rm : Room} {Qc : Array Value → State → Outcome → State → Prop} {free : Addr → Prop} {own C : String}
theorem nwI (hx : p.tables.exec = Jvm.exec) (hb : c.code = cc) (hts : ∀ w ∈ LW, w.before args s = true) (hK : KK D cy s) (hP : va_P D vwCl ws H) (hD : va_D As ws) (hS : va_S As H0 H locs) (hA : ∀ q, H0.size ≤ q → As q) {n : Int32} {N : Nat} (hn : ¬ n < 0) (hN : n.toNatClampNeg = N) (hbytes : N * 4 ≤ 536870912) (hcells : cells + 1 ≤ R.cells) (hslots : slots + N ≤ R.slots) (hdg : decode cc pc = .ok (.newarray .int, 2))
    (kk : ∀ (q : Nat) (H1 : Heap), va_P D vwCl (ws ++ [(q, zrow cy N)]) H1 → va_D As (ws ++ [(q, zrow cy N)]) → va_S As H0 H1 locs → W p l e R s m args below meth c H1 locs (cells + 1) (slots + N) Q (F0 m (pc + 2) ls (.ref q :: rest))) : W p l e R s m args below meth c H locs cells slots Q (F0 m pc ls (.int n :: rest)) := by
  refine va_newa (atype := .int) (ty := .int) (a0 := (N, .inl (fun _ => 0))) hx hb (hts _ k_ac_int) rfl hK.1 hP hD hS hA (fun _ => rfl) hn hN hbytes hcells hslots hdg (fun q cA H1 hK1 hP1 hD1 hS1 => ?_)
  have h1 := (hK1.2 4 (cA, .int) rfl).2
  have h0 := (hK.1.2 0 (cy 0, .int) rfl).2
  have e1 : cA = cy 0 := Option.some.inj ((show s.vm.findClass ("[" ++ FieldType.int.toString) = some cA from h1).symm.trans h0)
  subst e1
  exact kk q H1 hP1 hD1 hS1
/-- a constructor on the world's last cell -/
theorem joinL {cl : List vw_C} {H1 : Heap} {q : Nat} {e0 : va_E} {w1 : va_W} (hP : va_P D cl (ws ++ [(q, e0)]) H) (hD : va_D As (ws ++ [(q, e0)])) (hk : ∀ x : Nat, x < H.size → ¬ va_A [(q, e0)] H.size x → H1[x]? = H[x]?) (hF : ∀ x, va_A [(q, e0)] H.size x → As x) (hP1 : va_P D cl w1 H1) (hD1 : va_D (va_A [(q, e0)] H.size) w1) : va_P D cl (ws ++ w1) H1 ∧ va_D As (ws ++ w1) := by
  refine va_join (isC := [ws.length]) (isR := List.range ws.length) hP hD ?_ ?_ ?_ ?_ hk hF hP1 hD1
  · simp
  · apply List.ext_getElem?
    intro i
    by_cases hi : i < ws.length
    · simp [hi, List.getElem?_append_left hi]
    · simp [hi, List.getElem?_eq_none (Nat.not_lt.mp hi)]
  · have key : ∀ (k n : Nat), va_nd (List.range' k n) = true := by
      intro k n
      induction n generalizing k with
      | zero => rfl
      | succ n ih =>
        rw [List.range'_succ]
        simp only [va_nd, Bool.and_eq_true, decide_eq_true_eq]
        refine ⟨?_, ih _⟩
        rw [List.mem_range'_1]
        omega
    rw [List.range_eq_range']
    exact key 0 _
  · intro i hi
    rw [List.mem_range] at hi
    simp
    omega
theorem freeL {q : Nat} {e0 : va_E} (hD : va_D As (ws ++ [(q, e0)])) (hS : va_S As H0 H locs) (hA : ∀ q, H0.size ≤ q → As q) : ∀ x, va_A [(q, e0)] H.size x → As x := va_free hD hS hA [ws.length] (by simp)
theorem preW {ws' : va_W} {sz : Nat} {av : List Value} (hK : KK D cy s) (hP : va_P D vwCl ws' H) {B : Nat → Prop} (hD : va_D B ws') (hz : H.size = sz) : ∀ U : State, U.heap = H → s.WarmedH U.vm → va_Pc av (PrW D cy ws' sz) av.toArray U := fun U hU hW => ⟨rfl, by rw [hU]; exact hz, by rw [hU]; exact hP, hK.warm hW, hD.weaken (fun _ _ _ _ => trivial)⟩
theorem lastP {q : Nat × va_E} {cl : List vw_C} (hP : va_P D cl (ws ++ [q]) H) : va_P D cl [q] H := hP.sub [ws.length] (by simp)
theorem lastD {q : Nat × va_E} (hD : va_D As (ws ++ [q])) : va_D As [q] := hD.sub [ws.length] rfl (by simp)
theorem mkI (n : Nat) (hts : ∀ w ∈ LW, w.before args s = true) (h1 : Cond.methodLink own index y ∈ LW) (h2 : Cond.instanceMethod y ∈ LW) (h4 : Cond.initialized y.cls ∈ LW) (h5 : Cond.code y b maxL none ∈ LW) (hy1 : y.name = "<init>")
    (hd : y.cls ≠ "java/lang/invoke/MethodHandle" ∧ y.cls ≠ "java/lang/invoke/VarHandle" ∧ (parseMethodDescriptor y.desc).map (fun d => d.parameters.length) = some n) (hR : rm.frames + 1 ≤ R.frames ∧ 8 + (maxL + 11) + rm.locals ≤ R.locals) : CallB R s args own index y b maxL none (wm y b maxL none) rm rm.cells rm.slots n ∧ y.name = "<init>" ∧ (Cond.instanceMethod y).before args s = true :=
  cwI n hts (gi_wm h5) rfl rfl rfl (hts _ h4) (hts _ h1) (hts _ h2) hy1 hd hR
theorem mkIN (n : Nat) {host : String} (hts : ∀ w ∈ LW, w.before args s = true) (h1 : va_Nw (.methodLinkNest own index y host) s) (h2 : Cond.instanceMethod y ∈ LW) (h4 : Cond.initialized y.cls ∈ LW) (h5 : Cond.code y b maxL none ∈ LW) (hy1 : y.name = "<init>")
    (hd : y.cls ≠ "java/lang/invoke/MethodHandle" ∧ y.cls ≠ "java/lang/invoke/VarHandle" ∧ (parseMethodDescriptor y.desc).map (fun d => d.parameters.length) = some n) (hR : rm.frames + 1 ≤ R.frames ∧ 8 + (maxL + 11) + rm.locals ≤ R.locals) : va_CN R s args own index y host b maxL none (wm y b maxL none) rm rm.cells rm.slots n ∧ y.name = "<init>" ∧ (Cond.instanceMethod y).before args s = true :=
  ⟨va_cnB n hts (gi_wm h5) rfl rfl rfl h1 (hts _ h4) hd hR, hy1, hts _ h2⟩
/-- the call of a constructor on the world's last cell -/
theorem kc {S : Type} {post : S → Prop} {q : Nat} {e0 : va_E} {w1 : S → va_W} {a : Array Value} (hP : va_P D vwCl (ws ++ [(q, e0)]) H) (hD : va_D As (ws ++ [(q, e0)])) (hS : va_S As H0 H locs) (hA : ∀ q, H0.size ≤ q → As q) (hr : va_Run p l e R s m args below meth c H locs cells slots mc ms (F0 m pc ls st0) rest (va_Qv post (fun u t => va_P D vwCl (w1 u) t.heap ∧ va_D (va_A [(q, e0)] H.size) (w1 u)) (va_A [(q, e0)] H.size) a) (va_A [(q, e0)] H.size))
    (kk : ∀ (u : S) (H1 : Heap) (locs1 : List Loc), post u → va_P D vwCl (ws ++ w1 u) H1 → va_D As (ws ++ w1 u) → va_S As H0 H1 locs1 → W p l e R s m args below meth c H1 locs1 (cells + mc) (slots + ms) Q (F0 m (pc + 3) ls rest)) : W p l e R s m args below meth c H locs cells slots Q (F0 m pc ls st0) := by
  have hF := freeL hD hS hA
  refine va_callv hr hS (fun q _ h => hF q h) hF (fun u t H1 locs1 ht _ hp hB hz hk hS1 => ?_)
  obtain ⟨hP1, hD1⟩ := hB
  rw [ht] at hP1
  obtain ⟨g1, g2⟩ := joinL hP hD hk hF hP1 hD1
  exact kk u H1 locs1 hp g1 g2 hS1
end CT
theorem ofC {l : Launch} {D : va_G} {cy : Nat → ClassId} {ws : va_W} {y : MethodName} {b : ByteArray} {maxL : Nat} {ret : Option FieldType} {rm : Room} {av : List Value} {Qc : Nat → Array Value → State → Outcome → State → Prop} {sz mc ms : Nat} (hy : plainName y.cls = true) (hn : (lg_sl av).length ≤ maxL)
    (body : ∀ (p : Program) (e : Env) (s : State) (m : MethodId) (below : List Frame) (meth : Method) (c : Code), p.tables.exec = Jvm.exec → c.code = b → meth.sig.returnType = ret → (∀ w ∈ LW, w.before av.toArray s = true) → s.vm.findClass y.cls = some m.cls → meth.locks = false → c.maxLocals = maxL → meth.name = y.name → KK D cy s → va_P D vwCl ws s.heap → va_D (va_A ws s.heap.size) ws → ∀ ls : Array Slot, lv_has ls maxL (lv_args 0 av) →
      W p l e (headSpec (wm y b maxL ret) rm).room s m av.toArray below meth c s.heap [] 0 0 (MQ below (Qc s.heap.size) av.toArray s mc ms (va_A ws s.heap.size)) (F0 m 0 ls [])) : Met l y (wm y b maxL ret) rm (va_Pc av (PrW D cy ws sz)) (Qc sz) mc ms (va_A ws sz) := by
  refine Met.ofW (cc := b) (maxL := maxL) (ret := ret) hy rfl ?_
  intro p e s m args below meth c s₁ B hml hv
  obtain ⟨rfl, hsz, hP, hK, hD0⟩ := hv
  have hts0 := atoms_spec (ws := wm y b maxL ret) B.pre
  subst hsz
  have hl := lv_entry av (n := maxL) hn
  rw [lg_entry_eq]
  exact body p e s m below meth c B.exec B.bytes B.returns (fun w h => hts0 w (List.mem_cons_of_mem _ h)) (findClass_of_methodNamed B.named) B.notSynchronized hml (name_of_methodNamed B.named B.method).1 hK hP hD0.self _ hl
theorem A_hi {ws : va_W} {sz : Nat} : ∀ q, sz ≤ q → va_A ws sz q := fun _ h => Or.inr h
theorem hd_X1_init : yX1_init.cls ≠ "java/lang/invoke/MethodHandle" ∧ yX1_init.cls ≠ "java/lang/invoke/VarHandle" ∧ (parseMethodDescriptor yX1_init.desc).map (fun d => d.parameters.length) = some 0 := by decide +kernel
theorem hd_X0_init : yX0_init.cls ≠ "java/lang/invoke/MethodHandle" ∧ yX0_init.cls ≠ "java/lang/invoke/VarHandle" ∧ (parseMethodDescriptor yX0_init.desc).map (fun d => d.parameters.length) = some 1 := by decide +kernel
theorem hd_X3_init : yX3_init.cls ≠ "java/lang/invoke/MethodHandle" ∧ yX3_init.cls ≠ "java/lang/invoke/VarHandle" ∧ (parseMethodDescriptor yX3_init.desc).map (fun d => d.parameters.length) = some 0 := by decide +kernel
theorem hd_X4_init : yX4_init.cls ≠ "java/lang/invoke/MethodHandle" ∧ yX4_init.cls ≠ "java/lang/invoke/VarHandle" ∧ (parseMethodDescriptor yX4_init.desc).map (fun d => d.parameters.length) = some 0 := by decide +kernel
theorem hd_X5_init : yX5_init.cls ≠ "java/lang/invoke/MethodHandle" ∧ yX5_init.cls ≠ "java/lang/invoke/VarHandle" ∧ (parseMethodDescriptor yX5_init.desc).map (fun d => d.parameters.length) = some 0 := by decide +kernel
set_option maxHeartbeats 4000000 in
set_option maxRecDepth 100000 in
theorem c_X1_init (l : Launch) {D : va_G} {cy : Nat → ClassId} {h sz : Nat} : Met l yX1_init (wm yX1_init cX1_init 1 none) ({ frames := 1, cells := 2, slots := 260, locals := 40 } : Room) (va_Pc [.ref h] (PrW D cy [(h, bN)] sz)) (va_Qv (fun _ : Nat × Nat => True) (fun u t => va_P D vwCl (nodeL cy h u.1 u.2) t.heap ∧ va_D (va_A [(h, bN)] sz) (nodeL cy h u.1 u.2)) (va_A [(h, bN)] sz)) 2 260 (va_A [(h, bN)] sz) := by
  refine ofC (Qc := fun sz => va_Qv (fun _ : Nat × Nat => True) (fun u t => va_P D vwCl (nodeL cy h u.1 u.2) t.heap ∧ va_D (va_A [(h, bN)] sz) (nodeL cy h u.1 u.2)) (va_A [(h, bN)] sz)) (by decide +kernel) (Nat.le_of_ble_eq_true rfl) ?_
  intro p e s m below meth c hx hb hr hts hown hlocks hml hin hK hP hD ls hl
  have hin : meth.name = "<init>" := hin
  have hl : lv_has ls 1 [(0, .ref h)] := hl
  have hS : va_S (va_A [(h, bN)] s.heap.size) s.heap s.heap [] := va_S.rf
  refine lv_aload_n hx hb dX1_init_0 rfl (lv_at hl 0 rfl) ?_
  refine W.objInit hx hb hown (hts _ k_ml_RX1_3) (hts _ k_im_objectInit) (hts _ k_co_objectInit) rfl (by rw [hml]; exact hl.1) rfl dX1_init_1 (Nat.le_of_ble_eq_true rfl) (Nat.le_of_ble_eq_true rfl) ?_
  refine lv_aload_n hx hb dX1_init_4 rfl (lv_at hl 0 rfl) ?_
  refine lv_sipush (v := 160) hx hb dX1_init_5 (by decide) ?_
  refine nwI (N := 160) hx hb hts hK hP hD hS A_hi (by decide) (by decide) (Nat.le_of_ble_eq_true rfl) (Nat.le_of_ble_eq_true rfl) (Nat.le_of_ble_eq_true rfl) dX1_init_8 (fun q1 H hP hD hS => ?_)
  refine va_putF (ci := 1) (v := .ref q1) (ty := .array .int) (C := RX1) (T := TX1) (N := 6) hx hb hts iwX1 tyX1 tyX1_ok nmX1 hown hK.1 hP hD hS 0 rfl rfl 4 (by decide) (hts _ k_fl_RX1_9) (fun _ h => h) rfl hin rfl (by decide +kernel) rfl rfl (Nat.le_of_ble_eq_true rfl) dX1_init_10 (fun H locs hP hD hS => ?_)
  refine lv_aload_n hx hb dX1_init_13 rfl (lv_at hl 0 rfl) ?_
  refine lv_bipush (v := 100) hx hb dX1_init_14 (by decide) ?_
  refine nwI (N := 100) hx hb hts hK hP hD hS A_hi (by decide) (by decide) (Nat.le_of_ble_eq_true rfl) (Nat.le_of_ble_eq_true rfl) (Nat.le_of_ble_eq_true rfl) dX1_init_16 (fun q2 H hP hD hS => ?_)
  refine va_putF (ci := 1) (v := .ref q2) (ty := .array .int) (C := RX1) (T := TX1) (N := 6) hx hb hts iwX1 tyX1 tyX1_ok nmX1 hown hK.1 hP hD hS 0 rfl rfl 5 (by decide) (hts _ k_fl_RX1_15) (fun _ h => h) rfl hin rfl (by decide +kernel) rfl rfl (Nat.le_of_ble_eq_true rfl) dX1_init_18 (fun H locs hP hD hS => ?_)
  have hP : va_P D vwCl (nodeL cy h q1 q2) H := hP
  have hD : va_D (va_A [(h, bN)] s.heap.size) (nodeL cy h q1 q2) := hD
  exact W.vret hx hb hr (fun t ht hW => ⟨⟨(q1, q2), rfl, trivial, by rw [ht]; exact hP, hD⟩, hS.F ht⟩) hS.2.2 dX1_init_21 hlocks
