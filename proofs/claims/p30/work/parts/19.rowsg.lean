def Px (D : va_G) (cy : Nat → ClassId) (A : Nat → Nat) (G : Nat → Bool) (F : Nat → Prop) (M : Mem) : State → Prop := fun t => va_P D vwCl (wl A cy G M) t.heap ∧ va_D F (wl A cy G M)
theorem wdX {D : va_G} {cy : Nat → ClassId} {As : Nat → Prop} {A : Nat → Nat} {H0 H : Heap} {G : Nat → Bool} {M : Mem} {locs : List Loc} {M1 : Mem} {t : State} {H1 : Heap} {locs1 : List Loc} {A1 : Nat → Nat} {G1 : Nat → Bool} (hw : WD D cy As A H0 G M H locs) (hA : ∀ q, H0.size ≤ q → As q) (ht : t.heap = H1) (hB : Px D cy A1 G1 (Fr A G H.size) M1 t) (hS : va_S As H0 H1 locs1) : WD D cy As A1 H0 G1 M1 H1 locs1 :=
  ⟨by rw [← ht]; exact hB.1, hB.2.weaken (fun _ _ _ h => Fr_As hw hA _ h), hS⟩
/-! rows of methods that read or change the ring, and of those that may throw -/
theorem rg_T {G : Nat → Bool} {i : Int32} {x : Nat} (hi : ix i 4) (h : rg G (cl i) = some x) : TT G 2 x := by
  unfold rg at h
  by_cases hg : G (cl i) = true
  · rw [if_pos hg] at h
    have hl : cl i < 4 := ix_lt hi
    cases h
    refine ⟨?_, inL_iff.mpr (Or.inr (Or.inr ⟨by omega, by omega, by omega, Or.inr ?_⟩))⟩
    · rw [kd_ge (by omega), show (128 + 64 * cl i) % 64 = 0 by omega]
      rfl
    · rw [show (128 + 64 * cl i) / 64 - 2 = cl i by omega]
      exact hg
  · rw [if_neg hg] at h
    cases h
theorem TT.mono {G G1 : Nat → Bool} {k c : Nat} (h : TT G k c) (hG : ∀ c, inL G c = true → inL G1 c = true) : TT G1 k c := ⟨h.1, hG c h.2⟩
section GR
variable {p : Program} {l : Launch} {e : Env} {R : Room} {s : State} {m : MethodId} {args : Array Value} {below : List Frame} {meth : Method} {c : Code} {H : Heap} {locs : List Loc} {cells slots : Nat} {Q : State → Prop}
variable {cc : ByteArray} {pc : Nat} {ls : Array Slot} {rest st0 : List Value} {D : va_G} {cy : Nat → ClassId} {As : Nat → Prop} {A A1 : Nat → Nat} {H0 : Heap} {G G1 : Nat → Bool} {M M1 : Mem}
variable {mc ms : Nat} {Qc : Array Value → State → Outcome → State → Prop} {a : Array Value}
theorem g9q (hx : p.tables.exec = Jvm.exec) (hb : c.code = cc) (hK : KK D cy s) (hw : WD D cy As A H0 G M H locs) (hq : TT G 9 2) {i : Int32} (hin : ix i 4) (hdg : decode cc pc = .ok (.aaload, 1))
    (kn : rg G (cl i) = none → W p l e R s m args below meth c H locs cells slots Q (F0 m (pc + 1) ls (.null :: rest)))
    (kk : ∀ x, rg G (cl i) = some x → W p l e R s m args below meth c H locs cells slots Q (F0 m (pc + 1) ls (.ref (A x) :: rest))) : W p l e R s m args below meth c H locs cells slots Q (F0 m pc ls (.int i :: .ref (A 2) :: rest)) := by
  refine g9 hx hb hK hw hq hin hdg ?_
  by_cases hg : G i.toNatClampNeg = true
  · rw [if_pos hg]
    exact kk _ (if_pos hg)
  · rw [if_neg hg]
    exact kn (if_neg hg)
/-- a call that may add a state -/
theorem kvG (hw : WD D cy As A H0 G M H locs) (hA : ∀ q, H0.size ≤ q → As q) (hr : va_Run p l e R s m args below meth c H locs cells slots mc ms (F0 m pc ls st0) rest (va_Qv (fun A1 : Nat → Nat => ∀ c, inL G c = true → A1 c = A c ∧ inL G1 c = true) (fun A1 t => Px D cy A1 G1 (Fr A G H.size) M1 t) (Fr A G H.size) a) (Fr A G H.size))
    (kk : ∀ A1 : Nat → Nat, (∀ c, inL G c = true → A1 c = A c ∧ inL G1 c = true) → ∀ (H1 : Heap) (locs1 : List Loc), WD D cy As A1 H0 G1 M1 H1 locs1 → W p l e R s m args below meth c H1 locs1 (cells + mc) (slots + ms) Q (F0 m (pc + 3) ls rest)) : W p l e R s m args below meth c H locs cells slots Q (F0 m pc ls st0) :=
  va_callv hr hw.2.2 (fun q _ h => Fr_As hw hA q h) (Fr_As hw hA) (fun A1 t H1 locs1 ht _ hp hB _ _ hS => kk A1 hp H1 locs1 (wdX hw hA ht hB hS))
/-- ends behind it -/
theorem eGI {F : Nat → Prop} {v : Int32} {post : Int32 → (Nat → Nat) → Prop} {B : (Nat → Nat) → State → Prop} (hx : p.tables.exec = Jvm.exec) (hb : c.code = cc) (hr : meth.sig.returnType = some .int) (hlocks : meth.locks = false) (hw : WD D cy F A1 s.heap G1 M H locs) (hp : post v A1) (hB : ∀ t, Px D cy A1 G1 F M t → B A1 t) (hc : cells ≤ mc) (hs : slots ≤ ms) (hdg : decode cc pc = .ok (.ireturn, 1)) :
    W p l e R s m args below meth c H locs cells slots (MQ below (va_Qi post B F) args s mc ms F) (F0 m pc ls [.int v]) :=
  W.widen hc hs (W.iret hx hb hr (fun t ht hW => ⟨⟨v, A1, rfl, hp, hB t ⟨by rw [ht]; exact hw.1, hw.2.1⟩⟩, hw.2.2.F ht⟩) hw.2.2.2.2 hdg hlocks)
theorem eGV {F : Nat → Prop} {post : (Nat → Nat) → Prop} {B : (Nat → Nat) → State → Prop} (hx : p.tables.exec = Jvm.exec) (hb : c.code = cc) (hr : meth.sig.returnType = none) (hlocks : meth.locks = false) (hw : WD D cy F A1 s.heap G1 M H locs) (hp : post A1) (hB : ∀ t, Px D cy A1 G1 F M t → B A1 t) (hc : cells ≤ mc) (hs : slots ≤ ms) (hdg : decode cc pc = .ok (.return_, 1)) :
    W p l e R s m args below meth c H locs cells slots (MQ below (va_Qv post B F) args s mc ms F) (F0 m pc ls []) :=
  W.widen hc hs (W.vret hx hb hr (fun t ht hW => ⟨⟨A1, rfl, hp, hB t ⟨by rw [ht]; exact hw.1, hw.2.1⟩⟩, hw.2.2.F ht⟩) hw.2.2.2.2 hdg hlocks)
/-- the new state of the ring -/
theorem push_new {a0 a1 : Nat} {i : Nat} (hi : i < 4) (h0 : TT G 3 a0) (hx : p.tables.exec = Jvm.exec) (hb : c.code = cX4_push) (hml : c.maxLocals = 3) (hts : ∀ w ∈ LW, w.before args s = true) (hown : s.vm.findClass RX4 = some m.cls) (hK : KK D cy s) (hA : ∀ q, H0.size ≤ q → As q) (hw : WD D cy As A H0 G M H locs) (hl : lv_has ls 3 [(2, .null), (0, .ref (A a0)), (1, .ref (A a1))]) (hn : gF M a0 1 = nI i) (hg : G i = false) (hR : cells + 47 ≤ R.cells ∧ slots + 3497 ≤ R.slots ∧ 3 ≤ R.frames ∧ 150 ≤ R.locals)
    (kk : ∀ A1 : Nat → Nat, (∀ c, inL G c = true → A1 c = A c ∧ inL (va_up G i true) c = true) → ∀ (H1 : Heap) (locs1 : List Loc) (ls1 : Array Slot), WD D cy As A1 H0 (va_up G i true) (ini (128 + 64 * i) M) H1 locs1 → lv_has ls1 3 [(2, .ref (A1 (128 + 64 * i))), (0, .ref (A a0)), (1, .ref (A a1))] → W p l e R s m args below meth c H1 locs1 (cells + 47) (slots + 3497) Q (F0 m 52 ls1 [])) : W p l e R s m args below meth c H locs cells slots Q (F0 m 34 ls []) := by
  obtain ⟨hP, hD, hS⟩ := hw
  obtain ⟨k0, hk0⟩ := wl_get (A := A) (cy := cy) (M := M) h0.2
  rw [cont_3 h0.1] at hk0
  obtain ⟨kr, hkr⟩ := wl_get (A := A) (cy := cy) (M := M) (sk_r h0).2
  rw [cont_9 rfl] at hkr
  have hkl : kr < (wl A cy G M).length := (List.getElem?_eq_some_iff.mp hkr).1
  have hk0l : k0 < (wl A cy G M).length := (List.getElem?_eq_some_iff.mp hk0).1
  have hD0 := hD
  refine va_new (ci := 2) (fs := [.int 0, .int 0, .int 0, .null, .null]) (C := RX3) (T := TX3) (N := 5) hx hb hts iwX3 tyX3 tyX3_ok hown (hts _ k_cl_RX4_9) (hts _ k_it_RX3) (hts _ k_in_RX3) hK.1 hP hD hS hA rfl (fun j hj => by rcases (show j = 0 ∨ j = 1 ∨ j = 2 ∨ j = 3 ∨ j = 4 by omega) with rfl | rfl | rfl | rfl | rfl <;> rfl) (by omega) (by omega) dX4_push_34 (fun h H hP hD hS => ?_)
  refine lv_dup hx hb dX4_push_37 rfl ?_
  refine kc hP hD hS hA (va_runI (As := []) (rest := [.ref h]) ⟨hx, hb, hml, hown, hts⟩ (c_X3_init l (D := D) (cy := cy) (h := h) (sz := H.size)) (mkI 0 hts k_ml_RX4_21 k_im_yX3_init k_in_RX3 k_co_yX3_init rfl hd_X3_init ⟨by show 2 + 1 ≤ R.frames; omega, by show 8 + (2 + 11) + 80 ≤ R.locals; omega⟩) ⟨PrW.blind, preW hK (lastP hP) (lastD hD) rfl⟩ rfl rfl hl.1 rfl (lv_room (pc := 38) (ls := ls) (rest := [.ref h, .ref h]) (m := m) (Nat.le_of_ble_eq_true rfl)) dX4_push_38 ⟨by omega, by omega⟩) (fun u H locs _ hP hD hS => ?_)
  refine lv_astore_n (lv' := [(2, .ref h), (0, .ref (A a0)), (1, .ref (A a1))]) hx hb dX4_push_41 rfl hl (by decide) rfl (fun ls hl => ?_)
  refine lv_aload_n hx hb dX4_push_42 rfl (lv_at hl 1 rfl) ?_
  refine va_get (ci := 3) (v := .ref (A 2)) (C := RX4) (T := TX4) (N := 3) hx hb hts iwX4 hown hK.1 hP k0 (by rw [List.getElem?_append_left hk0l]; exact hk0) rfl 2 (by decide) (hts _ k_fl_RX4_11) (fun _ h => h) rfl dX4_push_43 ?_
  refine lv_aload_n hx hb dX4_push_46 rfl (lv_at hl 1 rfl) ?_
  refine va_get (ci := 3) (v := .int (gF M a0 1)) (C := RX4) (T := TX4) (N := 3) hx hb hts iwX4 hown hK.1 hP k0 (by rw [List.getElem?_append_left hk0l]; exact hk0) rfl 1 (by decide) (hts _ k_fl_RX4_17) (fun _ h => h) rfl dX4_push_47 ?_
  refine lv_aload_n hx hb dX4_push_50 rfl (lv_at hl 0 rfl) ?_
  obtain ⟨k9, hk9⟩ : ∃ k : Nat, (wl A cy G M ++ stW cy h u)[k]? = some (h, .inr (2, [.int 0, .int 0, .int 0, .ref u.1, .ref u.2.1])) := List.getElem?_of_mem (List.mem_append_right _ List.mem_cons_self)
  refine va_astq (r := (RX3, TX3, 5)) (q0 := kr) (t0 := 3) (qk := k9) (ci := 2) hx hb hK.1 hP hD hS (by rw [List.getElem?_append_left hkl]; exact hkr) rfl hk9 rfl (by rw [hn]; exact vp_in_nI hi (by omega)) dX4_push_51 (fun H locs hP hD hS => ?_)
  rw [hn, nI_clamp (show i < 2 ^ 31 by omega), List.set_append_left _ _ hkl] at hP hD
  have hAo : ∀ c, c / 64 ≠ (128 + 64 * i) / 64 → (fun c => if c / 64 = (128 + 64 * i) / 64 then stA h u (c % 64) else A c) c = A c := fun c hc => if_neg hc
  have hAn : ∀ r, r < 47 → (fun c => if c / 64 = (128 + 64 * i) / 64 then stA h u (c % 64) else A c) (128 + 64 * i + r) = stA h u r := fun r hr => by
    show (if (128 + 64 * i + r) / 64 = (128 + 64 * i) / 64 then stA h u ((128 + 64 * i + r) % 64) else _) = _
    rw [if_pos (by omega), show (128 + 64 * i + r) % 64 = r by omega]
  generalize (fun c => if c / 64 = (128 + 64 * i) / 64 then stA h u (c % 64) else A c) = A1 at hAo hAn
  obtain ⟨hP, hD⟩ := wl_grow hi hg hkr hAo hAn hP hD hD0
  have hAh : A1 (128 + 64 * i) = h := hAn 0 (by omega)
  refine W.cs (cells' := cells + 47) (slots' := slots + 3497) (by omega) (by omega) ?_
  refine kk A1 (fun c hc => ?_) H locs ls ⟨hP, hD, hS⟩ (by rw [hAh]; exact hl)
  refine ⟨hAo c ?_, ?_⟩
  · rcases inL_iff.mp hc with h3 | h3 | ⟨x, y, z, f⟩
    · omega
    · omega
    · rcases f with f | f
      · omega
      · intro q
        rw [show c / 64 - 2 = i by omega, hg] at f
        cases f
  · rcases inL_iff.mp hc with h3 | ⟨h3, h7⟩ | ⟨x, y, z, f⟩
    · exact inL_iff.mpr (Or.inl h3)
    · exact inL_iff.mpr (Or.inr (Or.inl ⟨h3, by rw [va_up_ne _ _ (show 7 ≠ i by omega)]; exact h7⟩))
    · refine inL_iff.mpr (Or.inr (Or.inr ⟨x, y, z, ?_⟩))
      rcases f with f | f
      · exact Or.inl f
      · refine Or.inr ?_
        by_cases hci : c / 64 - 2 = i
        · rw [hci]; exact va_up_self _ _ _
        · rw [va_up_ne _ _ hci]; exact f
end GR
theorem nI_cl {x : Int32} {n : Nat} (h : ix x n) : x = nI (cl x) := by
  obtain ⟨j, hj, rfl⟩ := nI_of (x := x) (fun q => h (Or.inl q))
  show nI j = nI (nI j).toNatClampNeg
  rw [nI_clamp hj]
theorem rg_no {G : Nat → Bool} {i : Nat} (h : rg G i = none) : G i = false := by
  unfold rg at h
  cases hg : G i with
  | false => rfl
  | true => rw [hg, if_pos rfl] at h; cases h
theorem rg_new {G : Nat → Bool} {i : Int32} (hi : ix i 4) : TT (va_up G (cl i) true) 2 (128 + 64 * cl i) := rg_T hi (if_pos (va_up_self _ _ _))
/-- a method's contract out of its body, one that may add a state -/
theorem ofG {l : Launch} {D : va_G} {cy : Nat → ClassId} {A : Nat → Nat} {G : Nat → Bool} {M : Mem} {y : MethodName} {b : ByteArray} {maxL : Nat} {ret : Option FieldType} {rm : Room} {av : List Value} {Qc : Nat → Array Value → State → Outcome → State → Prop} {sz mc ms : Nat} (hy : plainName y.cls = true) (hn : (lg_sl av).length ≤ maxL)
    (body : ∀ (p : Program) (e : Env) (s : State) (m : MethodId) (below : List Frame) (meth : Method) (c : Code), p.tables.exec = Jvm.exec → c.code = b → meth.sig.returnType = ret → (∀ w ∈ LW, w.before av.toArray s = true) → s.vm.findClass y.cls = some m.cls → meth.locks = false → c.maxLocals = maxL → meth.name = y.name → KK D cy s → WD D cy (Fr A G s.heap.size) A s.heap G M s.heap [] → ∀ ls : Array Slot, lv_has ls maxL (lv_args 0 av) →
      W p l e (headSpec (wm y b maxL ret) rm).room s m av.toArray below meth c s.heap [] 0 0 (MQ below (Qc s.heap.size) av.toArray s mc ms (Fr A G s.heap.size)) (F0 m 0 ls [])) : Met l y (wm y b maxL ret) rm (va_Pc av (Pr D cy A G M sz)) (Qc sz) mc ms (Fr A G sz) := by
  refine Met.ofW (cc := b) (maxL := maxL) (ret := ret) hy rfl ?_
  intro p e s m args below meth c s₁ B hml hv
  obtain ⟨rfl, hsz, hP, hK, hD0⟩ := hv
  have hts0 := atoms_spec (ws := wm y b maxL ret) B.pre
  subst hsz
  have hl := lv_entry av (n := maxL) hn
  rw [lg_entry_eq]
  exact body p e s m below meth c B.exec B.bytes B.returns (fun w h => hts0 w (List.mem_cons_of_mem _ h)) (findClass_of_methodNamed B.named) B.notSynchronized hml (name_of_methodNamed B.named B.method).1 hK ⟨hP, wl_Fr hD0, va_S.rf⟩ _ hl
