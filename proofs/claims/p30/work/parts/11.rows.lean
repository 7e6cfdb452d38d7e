section ROWS
variable {p : Program} {l : Launch} {e : Env} {R : Room} {s : State} {m : MethodId} {args : Array Value} {below : List Frame} {meth : Method} {c : Code} {H : Heap} {locs : List Loc} {cells slots : Nat} {Q : State → Prop}
variable {cc : ByteArray} {pc : Nat} {ls : Array Slot} {rest : List Value} {D : va_G} {cy : Nat → ClassId} {As : Nat → Prop} {A : Nat → Nat} {H0 : Heap} {G : Nat → Bool} {M : Mem}
theorem g0 (hx : p.tables.exec = Jvm.exec) (hb : c.code = cc) {own ref : String} {index : Nat} (hts : ∀ w ∈ LW, w.before args s = true) (hown : s.vm.findClass own = some m.cls) (hK : KK D cy s) (hw : WD D cy As A H0 G M H locs) {c0 : Nat} (hc : TT G 0 c0) (k : Nat) (hk : k < 12) (v : Value) (hv : (c0L A M c0)[k]? = some v) (hlink : Cond.fieldLink own index ref (TX0 k).2.1 (TX0 k).2.2.1 ∈ LW) (hsame : ∀ z, s.fieldFound? (TX0 k).1 (TX0 k).2.1 (TX0 k).2.2.1 = some z → s.fieldFound? ref (TX0 k).2.1 (TX0 k).2.2.1 = some z) (hdg : decode cc pc = .ok (.getfield index, 3))
    (kk : W p l e R s m args below meth c H locs cells slots Q (F0 m (pc + 3) ls (v :: rest))) : W p l e R s m args below meth c H locs cells slots Q (F0 m pc ls (.ref (A c0) :: rest)) := by
  obtain ⟨q0, he⟩ := wl_get (A := A) (cy := cy) (M := M) hc.2
  rw [cont_0 hc.1] at he
  exact va_get (C := RX0) (T := TX0) (N := 12) hx hb hts iwX0 hown hK.1 hw.1 q0 he rfl k hk (hts _ hlink) hsame hv hdg kk
theorem p0 (hx : p.tables.exec = Jvm.exec) (hb : c.code = cc) {own ref : String} {index : Nat} (hts : ∀ w ∈ LW, w.before args s = true) (hown : s.vm.findClass own = some m.cls) (hK : KK D cy s) (hw : WD D cy As A H0 G M H locs) {c0 : Nat} (hc : TT G 0 c0) (k : Nat) (hk : k < 8) {v : Int32} (hlink : Cond.fieldLink own index ref (TX0 k).2.1 (TX0 k).2.2.1 ∈ LW) (hsame : ∀ z, s.fieldFound? (TX0 k).1 (TX0 k).2.1 (TX0 k).2.2.1 = some z → s.fieldFound? ref (TX0 k).2.1 (TX0 k).2.2.1 = some z) (hfin : (TX0 k).2.2.2 = false) (hn : narrow (tyX0 k) (.int v) = .int v) (hf : fits (tyX0 k) (.int v) = true) (hdg : decode cc pc = .ok (.putfield index, 3))
    (kk : ∀ (H1 : Heap) (locs1 : List Loc), WD D cy As A H0 G (sF c0 k v M) H1 locs1 → W p l e R s m args below meth c H1 locs1 cells slots Q (F0 m (pc + 3) ls rest)) : W p l e R s m args below meth c H locs cells slots Q (F0 m pc ls (.int v :: .ref (A c0) :: rest)) := by
  obtain ⟨q0, he⟩ := wl_get (A := A) (cy := cy) (M := M) hc.2
  rw [cont_0 hc.1] at he
  have e1 : (wl A cy G M).set q0 (A c0, .inr (0, (c0L A M c0).set k (.int v))) = wl A cy G (sF c0 k v M) := by
    refine wl_set hw.2.1 hc.2 he ?_ (fun c' h => cont_sF h)
    rw [cont_0 hc.1]
    have hk' : k = 0 ∨ k = 1 ∨ k = 2 ∨ k = 3 ∨ k = 4 ∨ k = 5 ∨ k = 6 ∨ k = 7 := by omega
    rcases hk' with rfl | rfl | rfl | rfl | rfl | rfl | rfl | rfl <;> simp [gF, sF, up2]
  refine va_put (C := RX0) (T := TX0) (N := 12) (ty := tyX0 k) hx hb hts iwX0 tyX0 tyX0_ok nmX0 hown hK.1 hw.1 hw.2.1 hw.2.2 q0 he rfl k (by omega) (hts _ hlink) hsame hfin (tyX0_ok k (by omega)) hn hf (by show k < 12; omega) hdg (fun H1 locs1 h1 h2 h3 => kk H1 locs1 ⟨?_, ?_, h3⟩)
  · rw [← e1]; exact h1
  · rw [← e1]; exact h2
theorem g1 (hx : p.tables.exec = Jvm.exec) (hb : c.code = cc) {own ref : String} {index : Nat} (hts : ∀ w ∈ LW, w.before args s = true) (hown : s.vm.findClass own = some m.cls) (hK : KK D cy s) (hw : WD D cy As A H0 G M H locs) {c0 : Nat} (hc : TT G 1 c0) (k : Nat) (hk : k < 6) (v : Value) (hv : (c1L A M c0)[k]? = some v) (hlink : Cond.fieldLink own index ref (TX1 k).2.1 (TX1 k).2.2.1 ∈ LW) (hsame : ∀ z, s.fieldFound? (TX1 k).1 (TX1 k).2.1 (TX1 k).2.2.1 = some z → s.fieldFound? ref (TX1 k).2.1 (TX1 k).2.2.1 = some z) (hdg : decode cc pc = .ok (.getfield index, 3))
    (kk : W p l e R s m args below meth c H locs cells slots Q (F0 m (pc + 3) ls (v :: rest))) : W p l e R s m args below meth c H locs cells slots Q (F0 m pc ls (.ref (A c0) :: rest)) := by
  obtain ⟨q0, he⟩ := wl_get (A := A) (cy := cy) (M := M) hc.2
  rw [cont_1 hc.1] at he
  exact va_get (C := RX1) (T := TX1) (N := 6) hx hb hts iwX1 hown hK.1 hw.1 q0 he rfl k hk (hts _ hlink) hsame hv hdg kk
theorem p1 (hx : p.tables.exec = Jvm.exec) (hb : c.code = cc) {own ref : String} {index : Nat} (hts : ∀ w ∈ LW, w.before args s = true) (hown : s.vm.findClass own = some m.cls) (hK : KK D cy s) (hw : WD D cy As A H0 G M H locs) {c0 : Nat} (hc : TT G 1 c0) (k : Nat) (hk : k < 4) {v : Int32} (hlink : Cond.fieldLink own index ref (TX1 k).2.1 (TX1 k).2.2.1 ∈ LW) (hsame : ∀ z, s.fieldFound? (TX1 k).1 (TX1 k).2.1 (TX1 k).2.2.1 = some z → s.fieldFound? ref (TX1 k).2.1 (TX1 k).2.2.1 = some z) (hfin : (TX1 k).2.2.2 = false) (hn : narrow (tyX1 k) (.int v) = .int v) (hf : fits (tyX1 k) (.int v) = true) (hdg : decode cc pc = .ok (.putfield index, 3))
    (kk : ∀ (H1 : Heap) (locs1 : List Loc), WD D cy As A H0 G (sF c0 k v M) H1 locs1 → W p l e R s m args below meth c H1 locs1 cells slots Q (F0 m (pc + 3) ls rest)) : W p l e R s m args below meth c H locs cells slots Q (F0 m pc ls (.int v :: .ref (A c0) :: rest)) := by
  obtain ⟨q0, he⟩ := wl_get (A := A) (cy := cy) (M := M) hc.2
  rw [cont_1 hc.1] at he
  have e1 : (wl A cy G M).set q0 (A c0, .inr (1, (c1L A M c0).set k (.int v))) = wl A cy G (sF c0 k v M) := by
    refine wl_set hw.2.1 hc.2 he ?_ (fun c' h => cont_sF h)
    rw [cont_1 hc.1]
    have hk' : k = 0 ∨ k = 1 ∨ k = 2 ∨ k = 3 := by omega
    rcases hk' with rfl | rfl | rfl | rfl <;> simp [gF, sF, up2]
  refine va_put (C := RX1) (T := TX1) (N := 6) (ty := tyX1 k) hx hb hts iwX1 tyX1 tyX1_ok nmX1 hown hK.1 hw.1 hw.2.1 hw.2.2 q0 he rfl k (by omega) (hts _ hlink) hsame hfin (tyX1_ok k (by omega)) hn hf (by show k < 6; omega) hdg (fun H1 locs1 h1 h2 h3 => kk H1 locs1 ⟨?_, ?_, h3⟩)
  · rw [← e1]; exact h1
  · rw [← e1]; exact h2
theorem g2 (hx : p.tables.exec = Jvm.exec) (hb : c.code = cc) {own ref : String} {index : Nat} (hts : ∀ w ∈ LW, w.before args s = true) (hown : s.vm.findClass own = some m.cls) (hK : KK D cy s) (hw : WD D cy As A H0 G M H locs) {c0 : Nat} (hc : TT G 2 c0) (k : Nat) (hk : k < 5) (v : Value) (hv : (c2L A M c0)[k]? = some v) (hlink : Cond.fieldLink own index ref (TX3 k).2.1 (TX3 k).2.2.1 ∈ LW) (hsame : ∀ z, s.fieldFound? (TX3 k).1 (TX3 k).2.1 (TX3 k).2.2.1 = some z → s.fieldFound? ref (TX3 k).2.1 (TX3 k).2.2.1 = some z) (hdg : decode cc pc = .ok (.getfield index, 3))
    (kk : W p l e R s m args below meth c H locs cells slots Q (F0 m (pc + 3) ls (v :: rest))) : W p l e R s m args below meth c H locs cells slots Q (F0 m pc ls (.ref (A c0) :: rest)) := by
  obtain ⟨q0, he⟩ := wl_get (A := A) (cy := cy) (M := M) hc.2
  rw [cont_2 hc.1] at he
  exact va_get (C := RX3) (T := TX3) (N := 5) hx hb hts iwX3 hown hK.1 hw.1 q0 he rfl k hk (hts _ hlink) hsame hv hdg kk
theorem p2 (hx : p.tables.exec = Jvm.exec) (hb : c.code = cc) {own ref : String} {index : Nat} (hts : ∀ w ∈ LW, w.before args s = true) (hown : s.vm.findClass own = some m.cls) (hK : KK D cy s) (hw : WD D cy As A H0 G M H locs) {c0 : Nat} (hc : TT G 2 c0) (k : Nat) (hk : k < 3) {v : Int32} (hlink : Cond.fieldLink own index ref (TX3 k).2.1 (TX3 k).2.2.1 ∈ LW) (hsame : ∀ z, s.fieldFound? (TX3 k).1 (TX3 k).2.1 (TX3 k).2.2.1 = some z → s.fieldFound? ref (TX3 k).2.1 (TX3 k).2.2.1 = some z) (hfin : (TX3 k).2.2.2 = false) (hn : narrow (tyX3 k) (.int v) = .int v) (hf : fits (tyX3 k) (.int v) = true) (hdg : decode cc pc = .ok (.putfield index, 3))
    (kk : ∀ (H1 : Heap) (locs1 : List Loc), WD D cy As A H0 G (sF c0 k v M) H1 locs1 → W p l e R s m args below meth c H1 locs1 cells slots Q (F0 m (pc + 3) ls rest)) : W p l e R s m args below meth c H locs cells slots Q (F0 m pc ls (.int v :: .ref (A c0) :: rest)) := by
  obtain ⟨q0, he⟩ := wl_get (A := A) (cy := cy) (M := M) hc.2
  rw [cont_2 hc.1] at he
  have e1 : (wl A cy G M).set q0 (A c0, .inr (2, (c2L A M c0).set k (.int v))) = wl A cy G (sF c0 k v M) := by
    refine wl_set hw.2.1 hc.2 he ?_ (fun c' h => cont_sF h)
    rw [cont_2 hc.1]
    have hk' : k = 0 ∨ k = 1 ∨ k = 2 := by omega
    rcases hk' with rfl | rfl | rfl <;> simp [gF, sF, up2]
  refine va_put (C := RX3) (T := TX3) (N := 5) (ty := tyX3 k) hx hb hts iwX3 tyX3 tyX3_ok nmX3 hown hK.1 hw.1 hw.2.1 hw.2.2 q0 he rfl k (by omega) (hts _ hlink) hsame hfin (tyX3_ok k (by omega)) hn hf (by show k < 5; omega) hdg (fun H1 locs1 h1 h2 h3 => kk H1 locs1 ⟨?_, ?_, h3⟩)
  · rw [← e1]; exact h1
  · rw [← e1]; exact h2
theorem g3 (hx : p.tables.exec = Jvm.exec) (hb : c.code = cc) {own ref : String} {index : Nat} (hts : ∀ w ∈ LW, w.before args s = true) (hown : s.vm.findClass own = some m.cls) (hK : KK D cy s) (hw : WD D cy As A H0 G M H locs) {c0 : Nat} (hc : TT G 3 c0) (k : Nat) (hk : k < 3) (v : Value) (hv : (c3L A M c0)[k]? = some v) (hlink : Cond.fieldLink own index ref (TX4 k).2.1 (TX4 k).2.2.1 ∈ LW) (hsame : ∀ z, s.fieldFound? (TX4 k).1 (TX4 k).2.1 (TX4 k).2.2.1 = some z → s.fieldFound? ref (TX4 k).2.1 (TX4 k).2.2.1 = some z) (hdg : decode cc pc = .ok (.getfield index, 3))
    (kk : W p l e R s m args below meth c H locs cells slots Q (F0 m (pc + 3) ls (v :: rest))) : W p l e R s m args below meth c H locs cells slots Q (F0 m pc ls (.ref (A c0) :: rest)) := by
  obtain ⟨q0, he⟩ := wl_get (A := A) (cy := cy) (M := M) hc.2
  rw [cont_3 hc.1] at he
  exact va_get (C := RX4) (T := TX4) (N := 3) hx hb hts iwX4 hown hK.1 hw.1 q0 he rfl k hk (hts _ hlink) hsame hv hdg kk
theorem p3 (hx : p.tables.exec = Jvm.exec) (hb : c.code = cc) {own ref : String} {index : Nat} (hts : ∀ w ∈ LW, w.before args s = true) (hown : s.vm.findClass own = some m.cls) (hK : KK D cy s) (hw : WD D cy As A H0 G M H locs) {c0 : Nat} (hc : TT G 3 c0) (k : Nat) (hk : k < 2) {v : Int32} (hlink : Cond.fieldLink own index ref (TX4 k).2.1 (TX4 k).2.2.1 ∈ LW) (hsame : ∀ z, s.fieldFound? (TX4 k).1 (TX4 k).2.1 (TX4 k).2.2.1 = some z → s.fieldFound? ref (TX4 k).2.1 (TX4 k).2.2.1 = some z) (hfin : (TX4 k).2.2.2 = false) (hn : narrow (tyX4 k) (.int v) = .int v) (hf : fits (tyX4 k) (.int v) = true) (hdg : decode cc pc = .ok (.putfield index, 3))
    (kk : ∀ (H1 : Heap) (locs1 : List Loc), WD D cy As A H0 G (sF c0 k v M) H1 locs1 → W p l e R s m args below meth c H1 locs1 cells slots Q (F0 m (pc + 3) ls rest)) : W p l e R s m args below meth c H locs cells slots Q (F0 m pc ls (.int v :: .ref (A c0) :: rest)) := by
  obtain ⟨q0, he⟩ := wl_get (A := A) (cy := cy) (M := M) hc.2
  rw [cont_3 hc.1] at he
  have e1 : (wl A cy G M).set q0 (A c0, .inr (3, (c3L A M c0).set k (.int v))) = wl A cy G (sF c0 k v M) := by
    refine wl_set hw.2.1 hc.2 he ?_ (fun c' h => cont_sF h)
    rw [cont_3 hc.1]
    have hk' : k = 0 ∨ k = 1 := by omega
    rcases hk' with rfl | rfl <;> simp [gF, sF, up2]
  refine va_put (C := RX4) (T := TX4) (N := 3) (ty := tyX4 k) hx hb hts iwX4 tyX4 tyX4_ok nmX4 hown hK.1 hw.1 hw.2.1 hw.2.2 q0 he rfl k (by omega) (hts _ hlink) hsame hfin (tyX4_ok k (by omega)) hn hf (by show k < 3; omega) hdg (fun H1 locs1 h1 h2 h3 => kk H1 locs1 ⟨?_, ?_, h3⟩)
  · rw [← e1]; exact h1
  · rw [← e1]; exact h2
theorem g4 (hx : p.tables.exec = Jvm.exec) (hb : c.code = cc) {own ref : String} {index : Nat} (hts : ∀ w ∈ LW, w.before args s = true) (hown : s.vm.findClass own = some m.cls) (hK : KK D cy s) (hw : WD D cy As A H0 G M H locs) {c0 : Nat} (hc : TT G 4 c0) (k : Nat) (hk : k < 2) (v : Value) (hv : (c4L A)[k]? = some v) (hlink : Cond.fieldLink own index ref (TX5 k).2.1 (TX5 k).2.2.1 ∈ LW) (hsame : ∀ z, s.fieldFound? (TX5 k).1 (TX5 k).2.1 (TX5 k).2.2.1 = some z → s.fieldFound? ref (TX5 k).2.1 (TX5 k).2.2.1 = some z) (hdg : decode cc pc = .ok (.getfield index, 3))
    (kk : W p l e R s m args below meth c H locs cells slots Q (F0 m (pc + 3) ls (v :: rest))) : W p l e R s m args below meth c H locs cells slots Q (F0 m pc ls (.ref (A c0) :: rest)) := by
  obtain ⟨q0, he⟩ := wl_get (A := A) (cy := cy) (M := M) hc.2
  rw [cont_4 hc.1] at he
  exact va_get (C := RX5) (T := TX5) (N := 2) hx hb hts iwX5 hown hK.1 hw.1 q0 he rfl k hk (hts _ hlink) hsame hv hdg kk
/-- int rows -/
theorem gI (hx : p.tables.exec = Jvm.exec) (hb : c.code = cc) (hK : KK D cy s) (hw : WD D cy As A H0 G M H locs) {q n : Nat} (hq : TR G n q) {i : Int32} (hin : vp_in i n) (hdg : decode cc pc = .ok (.iaload, 1))
    (kk : W p l e R s m args below meth c H locs cells slots Q (F0 m (pc + 1) ls (.int (gR M q i.toNatClampNeg) :: rest))) : W p l e R s m args below meth c H locs cells slots Q (F0 m pc ls (.int i :: .ref (A q) :: rest)) := by
  obtain ⟨q0, he⟩ := wl_get (A := A) (cy := cy) (M := M) hq.2.2
  rw [cont_6 hq.1, hq.2.1] at he
  exact va_iald hx hb hK.1 hw.1 q0 0 he rfl hin hdg kk
theorem pI (hx : p.tables.exec = Jvm.exec) (hb : c.code = cc) (hK : KK D cy s) (hw : WD D cy As A H0 G M H locs) {q n : Nat} (hq : TR G n q) {i v : Int32} (hin : vp_in i n) (hdg : decode cc pc = .ok (.iastore, 1))
    (kk : ∀ (H1 : Heap) (locs1 : List Loc), WD D cy As A H0 G (sR q (upd (gR M q) i.toNatClampNeg v) M) H1 locs1 → W p l e R s m args below meth c H1 locs1 cells slots Q (F0 m (pc + 1) ls rest)) : W p l e R s m args below meth c H locs cells slots Q (F0 m pc ls (.int v :: .int i :: .ref (A q) :: rest)) := by
  obtain ⟨q0, he⟩ := wl_get (A := A) (cy := cy) (M := M) hq.2.2
  rw [cont_6 hq.1, hq.2.1] at he
  have e1 : (wl A cy G M).set q0 (A q, .inl (cy 0, n, .inl (upd (gR M q) i.toNatClampNeg v))) = wl A cy G (sR q (upd (gR M q) i.toNatClampNeg v) M) := by
    refine wl_set hw.2.1 hq.2.2 he ?_ (fun c' h => cont_sR h)
    rw [cont_6 hq.1, hq.2.1]
    simp [gR, sR, va_up]
  refine va_iast hx hb hK.1 hw.1 hw.2.1 hw.2.2 q0 0 he rfl hin hdg (fun H1 locs1 h1 h2 h3 => kk H1 locs1 ⟨?_, ?_, h3⟩)
  · rw [← e1]; exact h1
  · rw [← e1]; exact h2
theorem lI (hx : p.tables.exec = Jvm.exec) (hb : c.code = cc) (hK : KK D cy s) (hw : WD D cy As A H0 G M H locs) {q n : Nat} (hq : TR G n q) {v : Int32} (hv : Int32.ofNat n = v) (hdg : decode cc pc = .ok (.arraylength, 1))
    (kk : W p l e R s m args below meth c H locs cells slots Q (F0 m (pc + 1) ls (.int v :: rest))) : W p l e R s m args below meth c H locs cells slots Q (F0 m pc ls (.ref (A q) :: rest)) := by
  obtain ⟨q0, he⟩ := wl_get (A := A) (cy := cy) (M := M) hq.2.2
  rw [cont_6 hq.1, hq.2.1] at he
  exact va_alen hx hb hK.1 hw.1 q0 0 he (ty := .int) rfl hv hdg kk

theorem g7 (hx : p.tables.exec = Jvm.exec) (hb : c.code = cc) (hK : KK D cy s) (hw : WD D cy As A H0 G M H locs) {q : Nat} (hq : TT G 7 q) {i : Int32} (hin : vp_in i 4) (hdg : decode cc pc = .ok (.aaload, 1))
    (kk : W p l e R s m args below meth c H locs cells slots Q (F0 m (pc + 1) ls (.ref (A (q + 25 + 5 * i.toNatClampNeg)) :: rest))) : W p l e R s m args below meth c H locs cells slots Q (F0 m pc ls (.int i :: .ref (A q) :: rest)) := by
  obtain ⟨q0, he⟩ := wl_get (A := A) (cy := cy) (M := M) hq.2
  rw [cont_7 hq.1] at he
  refine va_aldq (C := RX0) hx hb hK.1 hw.1 q0 1 he rfl hin hdg ?_
  rw [if_pos (Nat.not_le.mp fun q => hin (Or.inr q))]
  exact kk
theorem l7 (hx : p.tables.exec = Jvm.exec) (hb : c.code = cc) (hK : KK D cy s) (hw : WD D cy As A H0 G M H locs) {q : Nat} (hq : TT G 7 q) (hdg : decode cc pc = .ok (.arraylength, 1))
    (kk : W p l e R s m args below meth c H locs cells slots Q (F0 m (pc + 1) ls (.int 4 :: rest))) : W p l e R s m args below meth c H locs cells slots Q (F0 m pc ls (.ref (A q) :: rest)) := by
  obtain ⟨q0, he⟩ := wl_get (A := A) (cy := cy) (M := M) hq.2
  rw [cont_7 hq.1] at he
  exact va_alen hx hb hK.1 hw.1 q0 1 he (ty := .object RX0) rfl (v := 4) rfl hdg kk
theorem g8 (hx : p.tables.exec = Jvm.exec) (hb : c.code = cc) (hK : KK D cy s) (hw : WD D cy As A H0 G M H locs) {q : Nat} (hq : TT G 8 q) {i : Int32} (hin : vp_in i 8) (hdg : decode cc pc = .ok (.aaload, 1))
    (kk : W p l e R s m args below meth c H locs cells slots Q (F0 m (pc + 1) ls (.ref (A (q + 2 + 3 * i.toNatClampNeg)) :: rest))) : W p l e R s m args below meth c H locs cells slots Q (F0 m pc ls (.int i :: .ref (A q) :: rest)) := by
  obtain ⟨q0, he⟩ := wl_get (A := A) (cy := cy) (M := M) hq.2
  rw [cont_8 hq.1] at he
  refine va_aldq (C := RX1) hx hb hK.1 hw.1 q0 2 he rfl hin hdg ?_
  rw [if_pos (Nat.not_le.mp fun q => hin (Or.inr q))]
  exact kk
theorem l8 (hx : p.tables.exec = Jvm.exec) (hb : c.code = cc) (hK : KK D cy s) (hw : WD D cy As A H0 G M H locs) {q : Nat} (hq : TT G 8 q) (hdg : decode cc pc = .ok (.arraylength, 1))
    (kk : W p l e R s m args below meth c H locs cells slots Q (F0 m (pc + 1) ls (.int 8 :: rest))) : W p l e R s m args below meth c H locs cells slots Q (F0 m pc ls (.ref (A q) :: rest)) := by
  obtain ⟨q0, he⟩ := wl_get (A := A) (cy := cy) (M := M) hq.2
  rw [cont_8 hq.1] at he
  exact va_alen hx hb hK.1 hw.1 q0 2 he (ty := .object RX1) rfl (v := 8) rfl hdg kk
theorem g9 (hx : p.tables.exec = Jvm.exec) (hb : c.code = cc) (hK : KK D cy s) (hw : WD D cy As A H0 G M H locs) (hq : TT G 9 2) {i : Int32} (hin : vp_in i 4) (hdg : decode cc pc = .ok (.aaload, 1))
    (kk : W p l e R s m args below meth c H locs cells slots Q (F0 m (pc + 1) ls (va_rf (if G i.toNatClampNeg then some (A (128 + 64 * i.toNatClampNeg)) else none) :: rest))) : W p l e R s m args below meth c H locs cells slots Q (F0 m pc ls (.int i :: .ref (A 2) :: rest)) := by
  obtain ⟨q0, he⟩ := wl_get (A := A) (cy := cy) (M := M) hq.2
  rw [cont_9 hq.1] at he
  exact va_aldq (C := RX3) hx hb hK.1 hw.1 q0 3 he rfl hin hdg kk
theorem l9 (hx : p.tables.exec = Jvm.exec) (hb : c.code = cc) (hK : KK D cy s) (hw : WD D cy As A H0 G M H locs) (hq : TT G 9 2) (hdg : decode cc pc = .ok (.arraylength, 1))
    (kk : W p l e R s m args below meth c H locs cells slots Q (F0 m (pc + 1) ls (.int 4 :: rest))) : W p l e R s m args below meth c H locs cells slots Q (F0 m pc ls (.ref (A 2) :: rest)) := by
  obtain ⟨q0, he⟩ := wl_get (A := A) (cy := cy) (M := M) hq.2
  rw [cont_9 hq.1] at he
  exact va_alen hx hb hK.1 hw.1 q0 3 he (ty := .object RX3) rfl (v := 4) rfl hdg kk
/-- System.arraycopy between int rows -/
theorem cpI (hx : p.tables.exec = Jvm.exec) (hb : c.code = cc) (hml : c.maxLocals = ls.size) {own : String} {index : Nat} (hts : ∀ w ∈ LW, w.before args s = true) (hown : s.vm.findClass own = some m.cls) (hK : KK D cy s) (hw : WD D cy As A H0 G M H locs) (hlink : Cond.methodLink own index arraycopyName ∈ LW) {q1 n1 q2 n2 : Nat} (hq1 : TR G n1 q1) (hq2 : TR G n2 q2) {sp dp n : Int32} (h1 : ¬ sp < 0) (h2 : ¬ dp < 0) (h3 : ¬ n < 0) (h4 : sp.toNatClampNeg + n.toNatClampNeg ≤ n1) (h5 : dp.toNatClampNeg + n.toNatClampNeg ≤ n2) (hfr : 1 ≤ R.frames) (hlo : (rest.map fun v => v.category).sum + (nativeFrameWords "java/lang/System" "arraycopy" 5 + 11) ≤ R.locals) (hdg : decode cc pc = .ok (.invokestatic index, 3))
    (kk : ∀ (H1 : Heap) (locs1 : List Loc), WD D cy As A H0 G (sR q2 (va_cpy (gR M q1) (gR M q2) sp.toNatClampNeg dp.toNatClampNeg n.toNatClampNeg) M) H1 locs1 → W p l e R s m args below meth c H1 locs1 cells slots Q (F0 m (pc + 3) ls rest)) : W p l e R s m args below meth c H locs cells slots Q (F0 m pc ls (.int n :: .int dp :: .ref (A q2) :: .int sp :: .ref (A q1) :: rest)) := by
  obtain ⟨k1, he1⟩ := wl_get (A := A) (cy := cy) (M := M) hq1.2.2
  obtain ⟨k2, he2⟩ := wl_get (A := A) (cy := cy) (M := M) hq2.2.2
  rw [cont_6 hq1.1, hq1.2.1] at he1
  rw [cont_6 hq2.1, hq2.2.1] at he2
  have e1 : (wl A cy G M).set k2 (A q2, .inl (cy 0, n2, .inl (va_cpy (gR M q1) (gR M q2) sp.toNatClampNeg dp.toNatClampNeg n.toNatClampNeg))) = wl A cy G (sR q2 (va_cpy (gR M q1) (gR M q2) sp.toNatClampNeg dp.toNatClampNeg n.toNatClampNeg) M) := by
    refine wl_set hw.2.1 hq2.2.2 he2 ?_ (fun c' h => cont_sR h)
    rw [cont_6 hq2.1, hq2.2.1]
    simp [gR, sR, va_up]
  refine va_copyi (ty := .int) hx hb hml hown (hts _ hlink) (hts _ k_na_arraycopyName) (hts _ k_st_arraycopyName) (hts _ k_in_J_System) hK.1 hw.1 hw.2.1 hw.2.2 k1 k2 0 0 he1 he2 rfl rfl rfl h1 h2 h3 h4 h5 (fun _ _ => rfl) hfr hlo hdg (fun H1 locs1 h1 h2 h3 => kk H1 locs1 ⟨?_, ?_, h3⟩)
  · rw [← e1]; exact h1
  · rw [← e1]; exact h2
theorem mxI (hx : p.tables.exec = Jvm.exec) (hb : c.code = cc) (hml : c.maxLocals = ls.size) {own : String} {index : Nat} (hts : ∀ w ∈ LW, w.before args s = true) (hown : s.vm.findClass own = some m.cls) (hlink : Cond.methodLink own index Lib.Math.max.name ∈ LW) (hfr : 1 ≤ R.frames) (hlo : (rest.map fun v => v.category).sum + 13 ≤ R.locals) (hc : cells ≤ R.cells) (hs : slots ≤ R.slots) {x y : Int32} (hdg : decode cc pc = .ok (.invokestatic index, 3))
    (kk : W p l e R s m args below meth c H locs cells slots Q (F0 m (pc + 3) ls (.int (if x < y then y else x) :: rest))) : W p l e R s m args below meth c H locs cells slots Q (F0 m pc ls (.int y :: .int x :: rest)) :=
  va_mmax hx hb hml hown (hts _ hlink) (hts _ k_st_Lib_Math_max_name) (hts _ k_in_J_Math) (hts _ k_co_Lib_Math_max_name) hfr hlo hc hs hdg kk
theorem mnI (hx : p.tables.exec = Jvm.exec) (hb : c.code = cc) (hml : c.maxLocals = ls.size) {own : String} {index : Nat} (hts : ∀ w ∈ LW, w.before args s = true) (hown : s.vm.findClass own = some m.cls) (hlink : Cond.methodLink own index Lib.Math.min.name ∈ LW) (hfr : 1 ≤ R.frames) (hlo : (rest.map fun v => v.category).sum + 13 ≤ R.locals) (hc : cells ≤ R.cells) (hs : slots ≤ R.slots) {x y : Int32} (hdg : decode cc pc = .ok (.invokestatic index, 3))
    (kk : W p l e R s m args below meth c H locs cells slots Q (F0 m (pc + 3) ls (.int (if y < x then y else x) :: rest))) : W p l e R s m args below meth c H locs cells slots Q (F0 m pc ls (.int y :: .int x :: rest)) :=
  va_mmin hx hb hml hown (hts _ hlink) (hts _ k_st_Lib_Math_min_name) (hts _ k_in_J_Math) (hts _ k_co_Lib_Math_min_name) hfr hlo hc hs hdg kk
end ROWS
