/-! the law's own small methods: a call of the store with its exceptions caught -/
theorem kd_low {c : Nat} : kd c ≤ 11 := by
  by_cases h : c < 8
  · have := kd_lt h
    omega
  · rw [kd_ge (by omega)]
    unfold kd2
    repeat' split
    all_goals omega
theorem kd2_le {r : Nat} : kd2 r < 10 := by
  unfold kd2
  repeat' split
  all_goals omega
theorem kd_10 {c : Nat} (h : kd c = 10) : c = 6 := by
  by_cases h8 : c < 8
  · exact (by decide : ∀ c, c < 8 → kd c = 10 → c = 6) c h8 h
  · rw [kd_ge (by omega)] at h
    have := kd2_le (r := c % 64)
    omega
theorem kd_11 {c : Nat} (h : kd c = 11) : c = 7 := by
  by_cases h8 : c < 8
  · exact (by decide : ∀ c, c < 8 → kd c = 11 → c = 7) c h8 h
  · rw [kd_ge (by omega)] at h
    have := kd2_le (r := c % 64)
    omega
theorem sm_in {G : Nat → Bool} {c : Nat} (h : c < 8) : inL G c = true := inL_iff.mpr (Or.inl h)
def oL (x : Int64) (M : Mem) : Mem := so (vp_updL (go M) 0 x) M
def oD (x : UInt64) (M : Mem) : Mem := sd (vf_upd (gd M) 0 x) M
def i2 (y : Int32) : Int64 := if y = 0 then 0 else 1
/-- an IllegalStateException is no IllegalArgumentException -/
def PrN (D : va_G) (cy : Nat → ClassId) (A : Nat → Nat) (G : Nat → Bool) (M : Mem) (sz : Nat) : State → Prop := fun U => PrX D cy A G M sz U ∧ va_Nc e2N e1N U
theorem va_Nc.same {C T : String} {u U : State} (h : u.vm = U.vm) (n : va_Nc C T u) : va_Nc C T U := n.moved (by rw [h]; exact Vm.Alike.refl _)
theorem PrN.blind {D : va_G} {cy : Nat → ClassId} {A : Nat → Nat} {G : Nat → Bool} {M : Mem} {sz : Nat} {av : List Value} : FrameBlind (va_Pc av (PrN D cy A G M sz)) := fun a U g mk q => ⟨(PrX.blind (av := av) a U g mk ⟨q.1, q.2.1⟩).1, (PrX.blind (av := av) a U g mk ⟨q.1, q.2.1⟩).2, va_Nc.same (u := U) rfl q.2.2⟩
abbrev wmW (y : MethodName) (b : ByteArray) (n : Nat) (r : Option FieldType) (hh : List (Nat × Nat × Nat × Nat)) : List Cond := Cond.codeWith y b n r hh :: LW
theorem gi_wmW {y : MethodName} {b : ByteArray} {n : Nat} {r : Option FieldType} {hh : List (Nat × Nat × Nat × Nat)} (h5 : Cond.codeWith y b n r hh ∈ LW) : GoodIn LW (wmW y b n r hh) := fun w h => by
  rcases List.mem_cons.mp h with rfl | h
  · exact ⟨h5, lw_gi _ h5⟩
  · exact ⟨h, lw_gi _ h⟩
/-- what a small method answers: the kind of its end, the ring's states, the memory -/
abbrev WQ (D : va_G) (cy : Nat → ClassId) (A : Nat → Nat) (G : Nat → Bool) (F : Nat → Prop) (w : Int32 × (Nat → Bool) × Mem) : Array Value → State → Outcome → State → Prop := va_Qi (fun r' (A1 : Nat → Nat) => r' = w.1 ∧ ∀ c, inL G c = true → A1 c = A c ∧ inL w.2.1 c = true) (fun A1 t => Px D cy A1 w.2.1 F w.2.2 t) F
section WRAP
variable {p : Program} {l : Launch} {e : Env} {R : Room} {s : State} {m : MethodId} {args : Array Value} {below : List Frame} {meth : Method} {c : Code} {H : Heap} {locs : List Loc} {cells slots : Nat} {Q : State → Prop}
variable {cc : ByteArray} {pc : Nat} {ls : Array Slot} {rest st0 : List Value} {D : va_G} {cy : Nat → ClassId} {As : Nat → Prop} {A A1 : Nat → Nat} {H0 : Heap} {G G1 : Nat → Bool} {M M1 : Mem}
variable {mc ms mc' ms' : Nat} {Qc : Array Value → State → Outcome → State → Prop} {XC : String → State → State → Prop} {a : Array Value}
theorem pL (hx : p.tables.exec = Jvm.exec) (hb : c.code = cc) (hK : KK D cy s) (hw : WD D cy As A H0 G M H locs) {x : Int64} (hdg : decode cc pc = .ok (.lastore, 1))
    (kk : ∀ (H1 : Heap) (locs1 : List Loc), WD D cy As A H0 G (oL x M) H1 locs1 → W p l e R s m args below meth c H1 locs1 cells slots Q (F0 m (pc + 1) ls rest)) : W p l e R s m args below meth c H locs cells slots Q (F0 m pc ls (.long x :: .int 0 :: .ref (A 6) :: rest)) := by
  obtain ⟨q0, he⟩ := wl_get (A := A) (cy := cy) (M := M) (sm_in (G := G) (show 6 < 8 by omega))
  rw [cont_10 rfl] at he
  have e1 : (wl A cy G M).set q0 (A 6, .inl (cy 4, 1, .inr (.inl (vp_updL (go M) (0 : Int32).toNatClampNeg x)))) = wl A cy G (oL x M) := by
    refine wl_set hw.2.1 (sm_in (by omega)) he ?_ (fun c' h => cont_so (fun h2 => h (kd_10 h2)))
    rw [cont_10 rfl]
    rfl
  refine va_last hx hb hK.1 hw.1 hw.2.1 hw.2.2 q0 4 he rfl (show vp_in (0 : Int32) 1 by unfold vp_in; decide) hdg (fun H1 locs1 h1 h2 h3 => kk H1 locs1 ⟨?_, ?_, h3⟩)
  · rw [← e1]; exact h1
  · rw [← e1]; exact h2
theorem pD (hx : p.tables.exec = Jvm.exec) (hb : c.code = cc) (hK : KK D cy s) (hw : WD D cy As A H0 G M H locs) {x : UInt64} (hdg : decode cc pc = .ok (.dastore, 1))
    (kk : ∀ (H1 : Heap) (locs1 : List Loc), WD D cy As A H0 G (oD x M) H1 locs1 → W p l e R s m args below meth c H1 locs1 cells slots Q (F0 m (pc + 1) ls rest)) : W p l e R s m args below meth c H locs cells slots Q (F0 m pc ls (.double x :: .int 0 :: .ref (A 7) :: rest)) := by
  obtain ⟨q0, he⟩ := wl_get (A := A) (cy := cy) (M := M) (sm_in (G := G) (show 7 < 8 by omega))
  rw [cont_11 rfl] at he
  have e1 : (wl A cy G M).set q0 (A 7, .inl (cy 5, 1, .inr (.inr (.inr (.inl (vf_upd (gd M) (0 : Int32).toNatClampNeg x)))))) = wl A cy G (oD x M) := by
    refine wl_set hw.2.1 (sm_in (by omega)) he ?_ (fun c' h => cont_sd (by
      have h1 := kd_low (c := c')
      have h2 : kd c' ≠ 11 := fun h2 => h (kd_11 h2)
      omega))
    rw [cont_11 rfl]
    rfl
  refine va_dast hx hb hK.1 hw.1 hw.2.1 hw.2.2 q0 5 he rfl (show vp_in (0 : Int32) 1 by unfold vp_in; decide) hdg (fun H1 locs1 h1 h2 h3 => kk H1 locs1 ⟨?_, ?_, h3⟩)
  · rw [← e1]; exact h1
  · rw [← e1]; exact h2
theorem eWI {F : Nat → Prop} {w : Int32 × (Nat → Bool) × Mem} {v : Int32} (hx : p.tables.exec = Jvm.exec) (hb : c.code = cc) (hr : meth.sig.returnType = some .int) (hlocks : meth.locks = false) (hw : WD D cy F A1 s.heap G1 M H locs) (hz : w = (v, G1, M)) (hAA : ∀ c, inL G c = true → A1 c = A c ∧ inL G1 c = true) (hc : cells ≤ mc) (hs : slots ≤ ms) (hdg : decode cc pc = .ok (.ireturn, 1)) :
    W p l e R s m args below meth c H locs cells slots (vx_MQ below (WQ D cy A G F w) XC args s mc ms F) (F0 m pc ls [.int v]) := by
  subst hz
  exact vx_ret (eGI hx hb hr hlocks hw ⟨rfl, hAA⟩ (fun t ht => ht) hc hs hdg)
/-- caught: the kinds by their places -/
theorem ct1 {ce : Cell} {q9 : Addr} {hpc : Nat} {i1 : Nat} {suf : List ExceptionTableEntry} {b0 b1 : Nat} (hts : ∀ w ∈ LW, w.before args s = true) (hown : s.vm.findClass RL = some m.cls) (hR : SR s) (hex : c.exceptionTable.toList = ⟨b0, b1, hpc, i1⟩ :: suf) (hcv9 : covers ⟨b0, b1, hpc, i1⟩ pc = true) (hi : i1 ≠ 0) (hl : Cond.classLink RL i1 e1N ∈ LW) (hce : H[q9]? = some ce) (hcv : ce.vm = .none) (hcl : s.vm.findClass e1N = some ce.cls)
    (kk : W p l e R s m args below meth c H locs cells slots Q (F0 m hpc ls [.ref q9])) : vx_W p l e R s m args below meth c H locs cells slots Q (F0 m pc ls rest) q9 :=
  vx_catch (E := e1N) (name := e1N) hown [] ⟨b0, b1, hpc, i1⟩ suf hex (fun z hz => nomatch hz) hcv9 hi (hts _ hl) (hR.use1 _ List.mem_cons_self) hce hcv hcl kk
theorem ct2 {ce : Cell} {q9 : Addr} {hpc : Nat} {i2 : Nat} {suf : List ExceptionTableEntry} {b0 b1 : Nat} (hts : ∀ w ∈ LW, w.before args s = true) (hown : s.vm.findClass RL = some m.cls) (hR : SR s) (hex : c.exceptionTable.toList = ⟨b0, b1, hpc, i2⟩ :: suf) (hcv9 : covers ⟨b0, b1, hpc, i2⟩ pc = true) (hi : i2 ≠ 0) (hl : Cond.classLink RL i2 e2N ∈ LW) (hce : H[q9]? = some ce) (hcv : ce.vm = .none) (hcl : s.vm.findClass e2N = some ce.cls)
    (kk : W p l e R s m args below meth c H locs cells slots Q (F0 m hpc ls [.ref q9])) : vx_W p l e R s m args below meth c H locs cells slots Q (F0 m pc ls rest) q9 :=
  vx_catch (E := e2N) (name := e2N) hown [] ⟨b0, b1, hpc, i2⟩ suf hex (fun z hz => nomatch hz) hcv9 hi (hts _ hl) (hR.use2 _ List.mem_cons_self) hce hcv hcl kk
theorem ct12 {ce : Cell} {q9 : Addr} {h1 hpc : Nat} {i1 i2 : Nat} {suf : List ExceptionTableEntry} {b0 b1 a0 a1 : Nat} (hts : ∀ w ∈ LW, w.before args s = true) (hown : s.vm.findClass RL = some m.cls) (hR : SR s) (hN : va_Nc e2N e1N s) (hex : c.exceptionTable.toList = ⟨a0, a1, h1, i1⟩ :: ⟨b0, b1, hpc, i2⟩ :: suf) (hcv9 : covers ⟨b0, b1, hpc, i2⟩ pc = true) (hi1 : i1 ≠ 0) (hi : i2 ≠ 0) (hl1 : Cond.classLink RL i1 e1N ∈ LW) (hl : Cond.classLink RL i2 e2N ∈ LW) (hce : H[q9]? = some ce) (hcv : ce.vm = .none) (hcl : s.vm.findClass e2N = some ce.cls)
    (kk : W p l e R s m args below meth c H locs cells slots Q (F0 m hpc ls [.ref q9])) : vx_W p l e R s m args below meth c H locs cells slots Q (F0 m pc ls rest) q9 :=
  vx_catch (E := e2N) (name := e2N) hown [⟨a0, a1, h1, i1⟩] ⟨b0, b1, hpc, i2⟩ suf hex (fun z hz => by
    cases List.mem_singleton.mp hz
    exact Or.inr ⟨hi1, e1N, hts _ hl1, hN⟩) hcv9 hi (hts _ hl) (hR.use2 _ List.mem_cons_self) hce hcv hcl kk
end WRAP
/-- the contract of a small method, out of its body -/
theorem ofXH {l : Launch} {D : va_G} {cy : Nat → ClassId} {A : Nat → Nat} {G : Nat → Bool} {M : Mem} {y : MethodName} {b : ByteArray} {maxL : Nat} {ret : Option FieldType} {hh : List (Nat × Nat × Nat × Nat)} {rm : Room} {av : List Value} {Qc : Nat → Array Value → State → Outcome → State → Prop} {XC : Nat → String → State → State → Prop} {sz mc ms : Nat} (hy : plainName y.cls = true) (hn : (lg_sl av).length ≤ maxL)
    (body : ∀ (p : Program) (e : Env) (s : State) (m : MethodId) (below : List Frame) (meth : Method) (c : Code), p.tables.exec = Jvm.exec → c.code = b → meth.sig.returnType = ret → (∀ w ∈ LW, w.before av.toArray s = true) → s.vm.findClass y.cls = some m.cls → meth.locks = false → c.maxLocals = maxL → c.exceptionTable.toList = tableOf hh → KK D cy s → SR s → XT (Fr A G s.heap.size) s s.heap → va_Nc e2N e1N s → WD D cy (Fr A G s.heap.size) A s.heap G M s.heap [] → ∀ ls : Array Slot, lv_has ls maxL (lv_args 0 av) →
      W p l e (headSpec (wmW y b maxL ret hh) rm).room s m av.toArray below meth c s.heap [] 0 0 (vx_MQ below (Qc s.heap.size) (XC s.heap.size) av.toArray s mc ms (Fr A G s.heap.size)) (F0 m 0 ls [])) : vx_Met l y (wmW y b maxL ret hh) rm (va_Pc av (PrN D cy A G M sz)) (Qc sz) (XC sz) mc ms (Fr A G sz) := by
  refine vx_ofWH (cc := b) (maxL := maxL) (ret := ret) hy rfl ?_
  intro p e s m args below meth c s₁ B hml hv
  obtain ⟨rfl, ⟨⟨hsz, hP, hK, hD0⟩, hR, hT⟩, hN⟩ := hv
  have hts0 := atoms_spec (ws := wmW y b maxL ret hh) B.pre
  have hex := vx_table (x := y) B (hts0 _ List.mem_cons_self)
  subst hsz
  have hl := lv_entry av (n := maxL) hn
  rw [lg_entry_eq]
  exact body p e s m below meth c B.exec B.bytes B.returns (fun w h => hts0 w (List.mem_cons_of_mem _ h)) (findClass_of_methodNamed B.named) B.notSynchronized hml hex hK hR hT hN ⟨hP, wl_Fr hD0, va_S.rf⟩ _ hl
