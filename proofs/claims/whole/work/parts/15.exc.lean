section
variable {p : Program} {l : Launch} {e : Env} {R : Room} {s : State} {m : MethodId} {args : Array Value} {below : List Frame} {meth : Method} {c : Code} {H : Heap} {locs : List Loc} {cells slots : Nat} {Q : State → Prop}
variable {mc ms : Nat} {free : Addr → Prop} {A0 A1 : Nat → Prop} {H0 : Heap} {a : Array Value} {pc : Nat} {ls : Array Slot} {st0 rest : List Value}
theorem vx_callq {S SX : Type} {post : Option Nat → S → Prop} {px : SX → Prop} {B : S → State → Prop} {BX : String → SX → State → Prop} {AX : Nat → Prop} (hr : vx_Run p l e R s m args below meth c H locs cells slots mc ms (F0 m pc ls st0) rest (va_Qq post B A1 a) (vx_X px BX AX) free) (hS : va_S A0 H0 H locs) (hA : ∀ q, q < H.size → A1 q → A0 q) (hf : ∀ q, free q → A0 q) (hAX : ∀ q, q < H.size → AX q → A0 q)
    (kx : ∀ (E : String) (ce : Cell) (q9 : Addr) (u : SX) (t : State) (H1 : Heap) (locs1 : List Loc), t.heap = H1 → s.vm.Alike t.vm → px u → BX E u t → H.size ≤ H1.size → (∀ q : Nat, q < H.size → ¬ AX q → H1[q]? = H[q]?) → va_S A0 H0 H1 locs1 → H1[q9]? = some ce → ce.vm = .none → s.vm.findClass E = some ce.cls → vx_W p l e R s m args below meth c H1 locs1 (cells + mc) (slots + ms) Q (F0 m pc ls rest) q9)
    (kk : ∀ (r : Option Nat) (u : S) (t : State) (H1 : Heap) (locs1 : List Loc), t.heap = H1 → s.vm.Alike t.vm → post r u → B u t → H.size ≤ H1.size → (∀ q : Nat, q < H.size → ¬ A1 q → H1[q]? = H[q]?) → va_S A0 H0 H1 locs1 → W p l e R s m args below meth c H1 locs1 (cells + mc) (slots + ms) Q (F0 m (pc + 3) ls (va_rf r :: rest))) : W p l e R s m args below meth c H locs cells slots Q (F0 m pc ls st0) := by
  intro T hT X
  rcases hr T hT X with ⟨v, st₀, t, T', L, h0, X', hL, e1, e2, ⟨⟨r, u, hv, hp, hb⟩, hF⟩, st⟩ | ⟨q, st₀, t, T', L, E, ce, h0, X', hL, e1, e2, ⟨u, hp, hb, hF⟩, hce, hcv, hcl, st⟩
  · cases hv
    obtain ⟨k1, k2, k3⟩ := vx_keep h0 e1 hS hA hf hL hF
    obtain ⟨t2, a1, b1⟩ := kk r u t T'.heap (locs ++ L) e1.symm (by rw [← e2]; exact X'.warmed.alike) hp hb k1 k2 k3 T' rfl X'
    exact ⟨t2, st t2 a1, b1⟩
  · obtain ⟨k1, k2, k3⟩ := vx_keep h0 e1 hS hAX hf hL hF
    obtain ⟨t2, a1, b1⟩ := kx E ce q u t T'.heap (locs ++ L) e1.symm (by rw [← e2]; exact X'.warmed.alike) hp hb k1 k2 k3 (by rw [e1]; exact hce) hcv hcl T' rfl X'
    exact ⟨t2, st.trans a1, b1⟩
end
/-! EXCEPTIONS of the store: 1 IllegalArgumentException, 2 IllegalStateException -/
abbrev e1N : String := "java/lang/IllegalArgumentException"
abbrev e2N : String := "java/lang/IllegalStateException"
def exn (k : Nat) : String := if k = 1 then e1N else e2N
abbrev exNs : List String := ["java/lang/RuntimeException", "java/lang/Exception"]
theorem xw1 : ∀ w ∈ (vx_atS RX5 94 e1N exNs).filter goodWord, w ∈ LW := fun w h => List.mem_filter.mpr ⟨(show ∀ w ∈ (vx_atS RX5 94 e1N exNs).filter goodWord, w ∈ lw_tbl by decide +kernel) w h, (List.mem_filter.mp h).2⟩
theorem xw2 : ∀ w ∈ (vx_atS RX5 31 e2N exNs).filter goodWord, w ∈ LW := fun w h => List.mem_filter.mpr ⟨(show ∀ w ∈ (vx_atS RX5 31 e2N exNs).filter goodWord, w ∈ lw_tbl by decide +kernel) w h, (List.mem_filter.mp h).2⟩
theorem k_in_e1 : Cond.initialized e1N ∈ LW := List.mem_filter.mpr ⟨by decide +kernel, rfl⟩
theorem k_in_e2 : Cond.initialized e2N ∈ LW := List.mem_filter.mpr ⟨by decide +kernel, rfl⟩
abbrev dcl (c : String) : Cond := Cond.declares ⟨c, "<init>", "(Ljava/lang/String;)V"⟩
abbrev B1 : List Cond := [Cond.castable e1N e1N, dcl "java/lang/RuntimeException", dcl "java/lang/Exception", dcl "java/lang/Throwable"]
abbrev B2 : List Cond := [Cond.castable e2N e2N, dcl "java/lang/RuntimeException", dcl "java/lang/Exception", dcl "java/lang/Throwable"]
theorem xn1 : ∀ w ∈ (vx_atS RX5 94 e1N exNs).filter (fun w => !goodWord w), w ∈ B1 := by decide +kernel
theorem xn2 : ∀ w ∈ (vx_atS RX5 31 e2N exNs).filter (fun w => !goodWord w), w ∈ B2 := by decide +kernel
theorem xg1 : ∀ w ∈ Cond.classLink RX5 90 e1N :: Cond.initialized e1N :: vx_atS RX5 94 e1N exNs, vx_ot w = true := by decide +kernel
theorem xg2 : ∀ w ∈ Cond.classLink RX5 27 e2N :: Cond.initialized e2N :: vx_atS RX5 31 e2N exNs, vx_ot w = true := by decide +kernel
def SRl : List (Nat × String) := [(29, "there are 8 nodes"), (265, "there is no such node"), (52, "the node is down already"), (57, "the node is up already"), (62, "the node is down"), (267, "there is no such ledger"), (92, "the ensemble size is out of range"), (95, "the write quorum is out of range"), (97, "the acknowledgement quorum is out of range"), (102, "there are 4 ledgers"), (112, "too few nodes are up"), (118, "the payload is out of range"), (125, "the ledger is not open"), (130, "the ledger has 40 entries"), (139, "there is no such position"), (150, "no node can be chosen"), (156, "the ledger is closed"), (162, "the ledger is not closed"), (171, "the entry is negative"), (176, "the entry is not readable"), (269, "there is no such entry"), (271, "there is no such fragment"), (215, "the undo stack is empty")]
/-- the texts, and what the tables alone say of the exceptions -/
def SR (U : State) : Prop := (∀ q ∈ SRl, ∃ a : Nat, vk_R RX5 q.1 q.2 a U) ∧ (∀ w ∈ B1, va_Nw w U) ∧ ∀ w ∈ B2, va_Nw w U
theorem SR_t1 : ∀ w ∈ B1, w.onTables = true := by decide +kernel
theorem SR_t2 : ∀ w ∈ B2, w.onTables = true := by decide +kernel
theorem SR.same {u U : State} (h : u.vm = U.vm) (n : SR u) : SR U := ⟨fun q hq => by
  obtain ⟨a, ha⟩ := n.1 q hq
  exact ⟨a, vk_R.same h.symm ha⟩, fun w hw => (n.2.1 w hw).same (SR_t1 w hw) h, fun w hw => (n.2.2 w hw).same (SR_t2 w hw) h⟩
theorem SR.use1 {args : Array Value} {s : State} (h : SR s) : ∀ w ∈ B1, w.before args s = true := fun w hw => va_Nw.use (SR_t1 w hw) (h.2.1 w hw)
theorem SR.use2 {args : Array Value} {s : State} (h : SR s) : ∀ w ∈ B2, w.before args s = true := fun w hw => va_Nw.use (SR_t2 w hw) (h.2.2 w hw)
theorem SR.warm {s U : State} (hW : s.WarmedH U.vm) (n : SR s) : SR U := by
  refine ⟨fun q hq => ?_, fun w hw => ?_, fun w hw => ?_⟩
  · obtain ⟨a, ha⟩ := n.1 q hq
    exact ⟨a, vk_R.warm hW ha⟩
  · have h := n.2.1 w hw
    simp only [B1, List.mem_cons, List.not_mem_nil, or_false] at hw
    rcases hw with rfl | rfl | rfl | rfl
    · exact va_Nw.warmC hW h
    · exact va_Nw.warmD hW h
    · exact va_Nw.warmD hW h
    · exact va_Nw.warmD hW h
  · have h := n.2.2 w hw
    simp only [B2, List.mem_cons, List.not_mem_nil, or_false] at hw
    rcases hw with rfl | rfl | rfl | rfl
    · exact va_Nw.warmC hW h
    · exact va_Nw.warmD hW h
    · exact va_Nw.warmD hW h
    · exact va_Nw.warmD hW h
/-- the two statics of Throwable -/
def XT (F : Nat → Prop) (U : State) (H : Heap) : Prop := vx_Zq Bundle.tN "UNASSIGNED_STACK" Bundle.steD F U H ∧ vx_Zq Bundle.tN "SUPPRESSED_SENTINEL" Bundle.listD F U H
theorem XT.moved {F : Nat → Prop} {u U : State} {H : Heap} (hvm : u.vm.Alike U.vm) (h : XT F u H) : XT F U H := ⟨h.1.moved hvm, h.2.moved hvm⟩
theorem XT.kept {F : Nat → Prop} {U : State} {H H1 : Heap} (h : XT F U H) (hq : ∀ a : Nat, a < H.size → ¬ F a → H1[a]? = H[a]?) : XT F U H1 := ⟨h.1.kept hq, h.2.kept hq⟩
theorem XT.narrow {F F' : Nat → Prop} {U : State} {H : Heap} (h : XT F U H) (hF : ∀ q, F' q → F q) : XT F' U H := ⟨h.1.narrow hF, h.2.narrow hF⟩
/-- the start of a method that may throw -/
def PrX (D : va_G) (cy : Nat → ClassId) (A : Nat → Nat) (G : Nat → Bool) (M : Mem) (sz : Nat) : State → Prop := fun U => Pr D cy A G M sz U ∧ SR U ∧ XT (Fr A G sz) U U.heap
/-- a world behind a method, A its places -/
def Px (D : va_G) (cy : Nat → ClassId) (A : Nat → Nat) (G : Nat → Bool) (F : Nat → Prop) (M : Mem) : State → Prop := fun t => va_P D vwCl (wl A cy G M) t.heap ∧ va_D F (wl A cy G M)
theorem PrX.blind {D : va_G} {cy : Nat → ClassId} {A : Nat → Nat} {G : Nat → Bool} {M : Mem} {sz : Nat} {av : List Value} : FrameBlind (va_Pc av (PrX D cy A G M sz)) := fun a U g mk q => by
  obtain ⟨q0, ⟨q1, qP, qK, qD⟩, q2, q3⟩ := q
  exact ⟨q0, ⟨q1, qP, qK.same rfl, qD⟩, SR.same (u := U) (U := U.calling g mk a) rfl q2, XT.moved (u := U) (U := U.calling g mk a) (Vm.Alike.refl U.vm) q3⟩
/-- how a method that may throw ends by a throw: nothing is changed -/
def Xx (D : va_G) (cy : Nat → ClassId) (A : Nat → Nat) (G : Nat → Bool) (F : Nat → Prop) (M : Mem) (px : Nat → Prop) : String → State → State → Prop := vx_X (fun k : Nat => px k) (fun E k t => E = exn k ∧ Px D cy A G F M t) F
section XROWS
variable {p : Program} {l : Launch} {e : Env} {R : Room} {s : State} {m : MethodId} {args : Array Value} {below : List Frame} {meth : Method} {c : Code} {H : Heap} {locs : List Loc} {cells slots : Nat} {Q : State → Prop}
variable {cc : ByteArray} {pc : Nat} {ls : Array Slot} {rest st0 : List Value} {D : va_G} {cy : Nat → ClassId} {As : Nat → Prop} {A : Nat → Nat} {H0 : Heap} {G : Nat → Bool} {M : Mem}
variable {y : MethodName} {b : ByteArray} {maxL nL mc ms index : Nat} {ret : Option FieldType} {rm : Room} {Qc : Array Value → State → Outcome → State → Prop} {XC : String → State → State → Prop} {free : Addr → Prop} {own C : String}
theorem XT_at (hT : XT As s H0) (hw : WD D cy As A H0 G M H locs) (hA : ∀ q, H0.size ≤ q → As q) : XT (Fr A G H.size) s H := (hT.kept hw.2.2.2.1).narrow (Fr_As hw hA)
theorem preUX {sz : Nat} {av : List Value} (hK : KK D cy s) (hR : SR s) (hT : XT As s H0) (hA : ∀ q, H0.size ≤ q → As q) (hw : WD D cy As A H0 G M H locs) (hz : H.size = sz) : ∀ U : State, U.heap = H → s.WarmedH U.vm → va_Pc av (PrX D cy A G M sz) av.toArray U := fun U hU hW => ⟨rfl, ⟨by rw [hU]; exact hz, by rw [hU]; exact hw.1, hK.warm hW, hw.2.1.weaken (fun _ _ _ _ => trivial)⟩, hR.warm hW, by
  rw [hU, ← hz]
  exact (XT_at hT hw hA).moved hW.alike⟩
/-- throw new E("..") -/
theorem thr1 (hx : p.tables.exec = Jvm.exec) (hb : c.code = cc) (hfl : l.stackTraces = false) (hts : ∀ w ∈ LW, w.before args s = true) (hown : s.vm.findClass RX5 = some m.cls) (hlocks : meth.locks = false) (hex : ∀ x ∈ c.exceptionTable.toList, False) (hml : c.maxLocals = ls.size) (hR : SR s) (hT : XT (Fr A G s.heap.size) s s.heap) (hw : WD D cy (Fr A G s.heap.size) A s.heap G M H locs) {is : Nat} {tx : String} (hs : (is, tx) ∈ SRl)
    (d0 : decode cc pc = .ok (.new 90, 3)) (d3 : decode cc (pc + 3) = .ok (.dup, 1)) (d4 : decode cc (pc + 4) = .ok (.ldc is, 2)) (d6 : decode cc (pc + 6) = .ok (.invokespecial 94, 3)) (d9 : decode cc (pc + 9) = .ok (.athrow, 1))
    (hf : 5 < R.frames) (hlo : (rest.map fun v => v.category).sum + 82 ≤ R.locals) (hc1 : cells + 1 ≤ R.cells) (hs1 : slots + 6 ≤ R.slots) (hc : cells + 1 ≤ mc) (hs2 : slots + 6 ≤ ms) {px : Nat → Prop} (hpx : px 1) :
    W p l e R s m args below meth c H locs cells slots (vx_MQ below Qc (Xx D cy A G (Fr A G s.heap.size) M px) args s mc ms (Fr A G s.heap.size)) (F0 m pc ls rest) := by
  obtain ⟨sa, hsa⟩ := hR.1 (is, tx) hs
  exact vx_throwS (own := RX5) (cls := e1N) (names := exNs) (ik := 90) (ic := 94) (A := Fr A G s.heap.size) hx hb hfl hown (by decide +kernel) (by decide +kernel) (hts _ k_cl_RX5_90) (hts _ k_in_e1) hsa (vx_hat (fun w h => hts w (xw1 w h)) xn1 hR.use1) xg1 hT.1 hT.2 hw.2.2 hml.symm d0 d3 d4 d6 d9 (fun x hx => (hex x hx).elim) hf (by show _ + (13 * 3 + 43) ≤ _; exact hlo) hc1 hs1 hlocks
    (fun t _ hz hq => ⟨1, hpx, ⟨rfl, hw.1.kept (fun k q hk => hq q.1 ((hw.1 k q hk).lt)), hw.2.1⟩, ⟨Nat.le_trans hw.2.2.1 hz, fun q h1 h2 => (hq q (Nat.lt_of_lt_of_le h1 hw.2.2.1)).trans (hw.2.2.2.1 q h1 h2)⟩⟩) hw.2.2.2.2 hc hs2
theorem thr1W (hx : p.tables.exec = Jvm.exec) (hb : c.code = cc) (hfl : l.stackTraces = false) (hts : ∀ w ∈ LW, w.before args s = true) (hown : s.vm.findClass RX5 = some m.cls) (hlocks : meth.locks = false) (hex : ∀ x ∈ c.exceptionTable.toList, False) (hml : c.maxLocals = ls.size) (hR : SR s) (hT : XT (Fr A G s.heap.size) s s.heap) (hw : WD D cy (Fr A G s.heap.size) A s.heap G M H locs) {is : Nat} {tx : String} (hs : (is, tx) ∈ SRl)
    (d0 : decode cc pc = .ok (.new 90, 3)) (d3 : decode cc (pc + 3) = .ok (.dup, 1)) (d4 : decode cc (pc + 4) = .ok (.ldc_w is, 3)) (d6 : decode cc (pc + 7) = .ok (.invokespecial 94, 3)) (d9 : decode cc (pc + 10) = .ok (.athrow, 1))
    (hf : 5 < R.frames) (hlo : (rest.map fun v => v.category).sum + 82 ≤ R.locals) (hc1 : cells + 1 ≤ R.cells) (hs1 : slots + 6 ≤ R.slots) (hc : cells + 1 ≤ mc) (hs2 : slots + 6 ≤ ms) {px : Nat → Prop} (hpx : px 1) :
    W p l e R s m args below meth c H locs cells slots (vx_MQ below Qc (Xx D cy A G (Fr A G s.heap.size) M px) args s mc ms (Fr A G s.heap.size)) (F0 m pc ls rest) := by
  obtain ⟨sa, hsa⟩ := hR.1 (is, tx) hs
  exact vx_throwSW (own := RX5) (cls := e1N) (names := exNs) (ik := 90) (ic := 94) (A := Fr A G s.heap.size) hx hb hfl hown (by decide +kernel) (by decide +kernel) (hts _ k_cl_RX5_90) (hts _ k_in_e1) hsa (vx_hat (fun w h => hts w (xw1 w h)) xn1 hR.use1) xg1 hT.1 hT.2 hw.2.2 hml.symm d0 d3 d4 d6 d9 (fun x hx => (hex x hx).elim) hf (by show _ + (13 * 3 + 43) ≤ _; exact hlo) hc1 hs1 hlocks
    (fun t _ hz hq => ⟨1, hpx, ⟨rfl, hw.1.kept (fun k q hk => hq q.1 ((hw.1 k q hk).lt)), hw.2.1⟩, ⟨Nat.le_trans hw.2.2.1 hz, fun q h1 h2 => (hq q (Nat.lt_of_lt_of_le h1 hw.2.2.1)).trans (hw.2.2.2.1 q h1 h2)⟩⟩) hw.2.2.2.2 hc hs2
theorem thr2 (hx : p.tables.exec = Jvm.exec) (hb : c.code = cc) (hfl : l.stackTraces = false) (hts : ∀ w ∈ LW, w.before args s = true) (hown : s.vm.findClass RX5 = some m.cls) (hlocks : meth.locks = false) (hex : ∀ x ∈ c.exceptionTable.toList, False) (hml : c.maxLocals = ls.size) (hR : SR s) (hT : XT (Fr A G s.heap.size) s s.heap) (hw : WD D cy (Fr A G s.heap.size) A s.heap G M H locs) {is : Nat} {tx : String} (hs : (is, tx) ∈ SRl)
    (d0 : decode cc pc = .ok (.new 27, 3)) (d3 : decode cc (pc + 3) = .ok (.dup, 1)) (d4 : decode cc (pc + 4) = .ok (.ldc is, 2)) (d6 : decode cc (pc + 6) = .ok (.invokespecial 31, 3)) (d9 : decode cc (pc + 9) = .ok (.athrow, 1))
    (hf : 5 < R.frames) (hlo : (rest.map fun v => v.category).sum + 82 ≤ R.locals) (hc1 : cells + 1 ≤ R.cells) (hs1 : slots + 6 ≤ R.slots) (hc : cells + 1 ≤ mc) (hs2 : slots + 6 ≤ ms) {px : Nat → Prop} (hpx : px 2) :
    W p l e R s m args below meth c H locs cells slots (vx_MQ below Qc (Xx D cy A G (Fr A G s.heap.size) M px) args s mc ms (Fr A G s.heap.size)) (F0 m pc ls rest) := by
  obtain ⟨sa, hsa⟩ := hR.1 (is, tx) hs
  exact vx_throwS (own := RX5) (cls := e2N) (names := exNs) (ik := 27) (ic := 31) (A := Fr A G s.heap.size) hx hb hfl hown (by decide +kernel) (by decide +kernel) (hts _ k_cl_RX5_27) (hts _ k_in_e2) hsa (vx_hat (fun w h => hts w (xw2 w h)) xn2 hR.use2) xg2 hT.1 hT.2 hw.2.2 hml.symm d0 d3 d4 d6 d9 (fun x hx => (hex x hx).elim) hf (by show _ + (13 * 3 + 43) ≤ _; exact hlo) hc1 hs1 hlocks
    (fun t _ hz hq => ⟨2, hpx, ⟨rfl, hw.1.kept (fun k q hk => hq q.1 ((hw.1 k q hk).lt)), hw.2.1⟩, ⟨Nat.le_trans hw.2.2.1 hz, fun q h1 h2 => (hq q (Nat.lt_of_lt_of_le h1 hw.2.2.1)).trans (hw.2.2.2.1 q h1 h2)⟩⟩) hw.2.2.2.2 hc hs2
/-- a call of a method that may throw -/
theorem xV (hx : p.tables.exec = Jvm.exec) (hb : c.code = cc) (hml : c.maxLocals = nL) (hts : ∀ w ∈ LW, w.before args s = true) (hown : s.vm.findClass own = some m.cls) (hK : KK D cy s) (hR : SR s) (hT : XT As s H0) (hA : ∀ q, H0.size ≤ q → As q) (hw : WD D cy As A H0 G M H locs) {c0 : Nat} {av : List Value}
    (hM : vx_Met l y (wm y b maxL ret) rm (va_Pc (.ref (A c0) :: av) (PrX D cy A G M H.size)) Qc XC mc ms free) {k : Nat} (hc : TT G k c0) (h6 : k < 6) {T : u_T} {N : Nat} (hcl : vwCl[k]? = some (C, T, N)) {n : Nat} (hcw : CallW R s args own C index y b maxL ret (wm y b maxL ret) rm mc ms n) (hn : av.length = n) (hl : ls.size = nL) (hst : st0 = av.reverse ++ .ref (A c0) :: rest) (hroom : (rest.map fun v => v.category).sum ≤ 8) (hdg : decode cc pc = .ok (.invokevirtual index, 3)) (hf : cells + mc ≤ R.cells ∧ slots + ms ≤ R.slots) :
    vx_Run p l e R s m args below meth c H locs cells slots mc ms (F0 m pc ls st0) rest (Qc (Value.ref (A c0) :: av).toArray) XC free :=
  vx_runV ⟨hx, hb, hml, hown, hts⟩ hM hcw ⟨PrX.blind, recvT hK hw hc h6 hcl, preUX hK hR hT hA hw rfl⟩ rfl hn hl hst (lv_room (pc := pc) (ls := ls) (rest := st0) (m := m) hroom) hdg hf
theorem xS (hx : p.tables.exec = Jvm.exec) (hb : c.code = cc) (hml : c.maxLocals = nL) (hts : ∀ w ∈ LW, w.before args s = true) (hown : s.vm.findClass own = some m.cls) (hK : KK D cy s) (hR : SR s) (hT : XT As s H0) (hA : ∀ q, H0.size ≤ q → As q) (hw : WD D cy As A H0 G M H locs) {av : List Value}
    (hM : vx_Met l y (wm y b maxL ret) rm (va_Pc av (PrX D cy A G M H.size)) Qc XC mc ms free) {n : Nat} (hcw : CallB R s args own index y b maxL ret (wm y b maxL ret) rm mc ms n ∧ (Cond.static y).before args s = true) (hn : av.length = n) (hl : ls.size = nL) (hst : st0 = av.reverse ++ rest) (hroom : (rest.map fun v => v.category).sum ≤ 8) (hdg : decode cc pc = .ok (.invokestatic index, 3)) (hf : cells + mc ≤ R.cells ∧ slots + ms ≤ R.slots) :
    vx_Run p l e R s m args below meth c H locs cells slots mc ms (F0 m pc ls st0) rest (Qc av.toArray) XC free :=
  vx_runS ⟨hx, hb, hml, hown, hts⟩ hM hcw ⟨PrX.blind, preUX hK hR hT hA hw rfl⟩ rfl hn hl hst (lv_room (pc := pc) (ls := ls) (rest := st0) (m := m) hroom) hdg hf
theorem wdX {M1 : Mem} {t : State} {H1 : Heap} {locs1 : List Loc} {A1 : Nat → Nat} {G1 : Nat → Bool} (hw : WD D cy As A H0 G M H locs) (hA : ∀ q, H0.size ≤ q → As q) (ht : t.heap = H1) (hB : Px D cy A1 G1 (Fr A G H.size) M1 t) (hS : va_S As H0 H1 locs1) : WD D cy As A1 H0 G1 M1 H1 locs1 :=
  ⟨by rw [← ht]; exact hB.1, hB.2.weaken (fun _ _ _ h => Fr_As hw hA _ h), hS⟩
variable {a : Array Value}
/-- it goes on to the caller -/
theorem xout {px px' : Nat → Prop} {E : String} {ce : Cell} {q9 : Addr} {k : Nat} {t : State} (hlocks : meth.locks = false) (hex : ∀ x ∈ c.exceptionTable.toList, False) (hw : WD D cy (Fr A G s.heap.size) A s.heap G M H locs) (hE : E = exn k) (hpx : px' k) (hce : H[q9]? = some ce) (hcv : ce.vm = .none) (hcl : s.vm.findClass E = some ce.cls) (hc : cells ≤ mc) (hs : slots ≤ ms) :
    vx_W p l e R s m args below meth c H locs cells slots (vx_MQ below Qc (Xx D cy A G (Fr A G s.heap.size) M px') args s mc ms (Fr A G s.heap.size)) (F0 m pc ls rest) q9 :=
  vx_out (E := E) (fun x hx => (hex x hx).elim) hlocks hce hcv hcl (fun t ht _ => ⟨k, hpx, ⟨hE, by rw [ht]; exact hw.1, hw.2.1⟩, hw.2.2.F ht⟩) hw.2.2.2.2 hc hs
/-- a call of one that answers a node or a ledger, or throws; its throw goes on to the caller -/
theorem xq {z : Nat ⊕ Nat} {px' : Nat → Prop} {mc' ms' : Nat} (hlocks : meth.locks = false) (hex : ∀ x ∈ c.exceptionTable.toList, False) (hw : WD D cy (Fr A G s.heap.size) A s.heap G M H locs) (hr : vx_Run p l e R s m args below meth c H locs cells slots mc ms (F0 m pc ls st0) rest (va_Qq (fun (r' : Option Nat) (x : Nat) => z = .inl x ∧ r' = some (A x)) (fun _ t => Px D cy A G (Fr A G H.size) M t) (Fr A G H.size) a) (Xx D cy A G (Fr A G H.size) M (fun k => z = .inr k)) (Fr A G H.size))
    (hc : cells + mc ≤ mc') (hs : slots + ms ≤ ms') (hpx : ∀ k, z = .inr k → px' k)
    (kk : ∀ x, z = .inl x → ∀ (H1 : Heap) (locs1 : List Loc), WD D cy (Fr A G s.heap.size) A s.heap G M H1 locs1 → W p l e R s m args below meth c H1 locs1 (cells + mc) (slots + ms) (vx_MQ below Qc (Xx D cy A G (Fr A G s.heap.size) M px') args s mc' ms' (Fr A G s.heap.size)) (F0 m (pc + 3) ls (.ref (A x) :: rest))) :
    W p l e R s m args below meth c H locs cells slots (vx_MQ below Qc (Xx D cy A G (Fr A G s.heap.size) M px') args s mc' ms' (Fr A G s.heap.size)) (F0 m pc ls st0) :=
  vx_callq hr hw.2.2 (fun q _ h => Fr_As hw Fr_hi q h) (Fr_As hw Fr_hi) (fun q _ h => Fr_As hw Fr_hi q h)
    (fun E ce q9 k t H1 locs1 ht _ hp hB _ _ hS hce hcv hcl => xout (px := px') (t := t) hlocks hex (wdX hw Fr_hi ht hB.2 hS) hB.1 (hpx k hp) hce hcv hcl hc hs)
    (fun r' x t H1 locs1 ht _ hp hB _ _ hS => by
      obtain ⟨h1, rfl⟩ := hp
      exact kk x h1 H1 locs1 (wdX hw Fr_hi ht hB hS))
theorem xvv {z : Unit ⊕ Nat} {px' : Nat → Prop} {mc' ms' : Nat} (hlocks : meth.locks = false) (hex : ∀ x ∈ c.exceptionTable.toList, False) (hw : WD D cy (Fr A G s.heap.size) A s.heap G M H locs) (hr : vx_Run p l e R s m args below meth c H locs cells slots mc ms (F0 m pc ls st0) rest (va_Qv (fun (_ : Unit) => z = .inl ()) (fun _ t => Px D cy A G (Fr A G H.size) M t) (Fr A G H.size) a) (Xx D cy A G (Fr A G H.size) M (fun k => z = .inr k)) (Fr A G H.size))
    (hc : cells + mc ≤ mc') (hs : slots + ms ≤ ms') (hpx : ∀ k, z = .inr k → px' k)
    (kk : z = .inl () → ∀ (H1 : Heap) (locs1 : List Loc), WD D cy (Fr A G s.heap.size) A s.heap G M H1 locs1 → W p l e R s m args below meth c H1 locs1 (cells + mc) (slots + ms) (vx_MQ below Qc (Xx D cy A G (Fr A G s.heap.size) M px') args s mc' ms' (Fr A G s.heap.size)) (F0 m (pc + 3) ls rest)) :
    W p l e R s m args below meth c H locs cells slots (vx_MQ below Qc (Xx D cy A G (Fr A G s.heap.size) M px') args s mc' ms' (Fr A G s.heap.size)) (F0 m pc ls st0) :=
  vx_callv hr hw.2.2 (fun q _ h => Fr_As hw Fr_hi q h) (Fr_As hw Fr_hi) (fun q _ h => Fr_As hw Fr_hi q h)
    (fun E ce q9 k t H1 locs1 ht _ hp hB _ _ hS hce hcv hcl => xout (px := px') (t := t) hlocks hex (wdX hw Fr_hi ht hB.2 hS) hB.1 (hpx k hp) hce hcv hcl hc hs)
    (fun u t H1 locs1 ht _ hp hB _ _ hS => kk hp H1 locs1 (wdX hw Fr_hi ht hB hS))
end XROWS
/-- the contract of a method that may throw, out of its body -/
theorem ofX {l : Launch} {D : va_G} {cy : Nat → ClassId} {A : Nat → Nat} {G : Nat → Bool} {M : Mem} {y : MethodName} {b : ByteArray} {maxL : Nat} {ret : Option FieldType} {rm : Room} {av : List Value} {Qc : Nat → Array Value → State → Outcome → State → Prop} {XC : Nat → String → State → State → Prop} {sz mc ms : Nat} (hy : plainName y.cls = true) (hn : (lg_sl av).length ≤ maxL)
    (body : ∀ (p : Program) (e : Env) (s : State) (m : MethodId) (below : List Frame) (meth : Method) (c : Code), p.tables.exec = Jvm.exec → c.code = b → meth.sig.returnType = ret → (∀ w ∈ LW, w.before av.toArray s = true) → s.vm.findClass y.cls = some m.cls → meth.locks = false → c.maxLocals = maxL → (∀ x ∈ c.exceptionTable.toList, False) → KK D cy s → SR s → XT (Fr A G s.heap.size) s s.heap → WD D cy (Fr A G s.heap.size) A s.heap G M s.heap [] → ∀ ls : Array Slot, lv_has ls maxL (lv_args 0 av) →
      W p l e (headSpec (wm y b maxL ret) rm).room s m av.toArray below meth c s.heap [] 0 0 (vx_MQ below (Qc s.heap.size) (XC s.heap.size) av.toArray s mc ms (Fr A G s.heap.size)) (F0 m 0 ls [])) : vx_Met l y (wm y b maxL ret) rm (va_Pc av (PrX D cy A G M sz)) (Qc sz) (XC sz) mc ms (Fr A G sz) := by
  refine vx_ofW (cc := b) (maxL := maxL) (ret := ret) hy rfl ?_
  intro p e s m args below meth c s₁ B hml hex hv
  obtain ⟨rfl, ⟨hsz, hP, hK, hD0⟩, hR, hT⟩ := hv
  have hts0 := atoms_spec (ws := wm y b maxL ret) B.pre
  subst hsz
  have hl := lv_entry av (n := maxL) hn
  rw [lg_entry_eq]
  exact body p e s m below meth c B.exec B.bytes B.returns (fun w h => hts0 w (List.mem_cons_of_mem _ h)) (findClass_of_methodNamed B.named) B.notSynchronized hml hex hK hR hT ⟨hP, wl_Fr hD0, va_S.rf⟩ _ hl
