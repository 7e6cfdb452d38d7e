/-! rows of the law's own body -/
abbrev LAs (s : State) : Nat → Prop := fun q => s.heap.size ≤ q
/-- what holds all along the law -/
def LC (p : Program) (l : Launch) (s : State) (m : MethodId) (meth : Method) (c : Code) (b L : Nat) (xs : Nat → Int32) (D : va_G) (cy : Nat → ClassId) : Prop :=
  p.tables.exec = Jvm.exec ∧ c.code = cL_law ∧ meth.sig.returnType = ret ∧ meth.locks = false ∧ c.maxLocals = 21 ∧ s.vm.findClass RL = some m.cls ∧ (∀ w ∈ LW, w.before #[Value.ref b] s = true) ∧ KK D cy s ∧ va_X b L xs s s.heap ∧ b < s.heap.size ∧ L ≤ 260
abbrev WL (p : Program) (l : Launch) (e : Env) (s : State) (m : MethodId) (below : List Frame) (meth : Method) (c : Code) (b : Nat) (H : Heap) (locs : List Loc) (cells slots : Nat) (g : JFrame) : Prop := W p l e room_1 s m #[Value.ref b] below meth c H locs cells slots (lw_Z below #[Value.ref b] s) g
theorem la_7 {G : Nat → Bool} (h : inL G 3 = true) : G 7 = true := by
  rcases inL_iff.mp h with h | h | h
  · omega
  · exact h.2
  · omega
theorem TR.mono {G G1 : Nat → Bool} {k c : Nat} (h : TR G k c) (hG : ∀ c, inL G c = true → inL G1 c = true) : TR G1 k c := ⟨h.1, h.2.1, hG c h.2.2⟩
/-- an int of the script, or what the law takes beyond its end -/
def cv (xs : Nat → Int32) (L : Nat) (k : Int32) : Int32 := if nI L ≤ k then 7919 * (k + 3) * (k + 11) else xs (cl k)
def PrC (D : va_G) (cy : Nat → ClassId) (A : Nat → Nat) (G : Nat → Bool) (M : Mem) (sz b L : Nat) (xs : Nat → Int32) : State → Prop := fun U => Pr D cy A G M sz U ∧ va_X b L xs U U.heap
theorem PrC.blind {D : va_G} {cy : Nat → ClassId} {A : Nat → Nat} {G : Nat → Bool} {M : Mem} {sz b L : Nat} {xs : Nat → Int32} {av : List Value} : FrameBlind (va_Pc av (PrC D cy A G M sz b L xs)) := fun a U g mk q => ⟨(Pr.blind (av := av) a U g mk ⟨q.1, q.2.1⟩).1, (Pr.blind (av := av) a U g mk ⟨q.1, q.2.1⟩).2, va_X.moved (u := U) (U := U.calling g mk a) (Vm.Alike.refl U.vm) q.2.2⟩
theorem hd_L_cell : yL_cell.cls = RL ∧ yL_cell.cls ≠ "java/lang/invoke/MethodHandle" ∧ yL_cell.cls ≠ "java/lang/invoke/VarHandle" ∧ (parseMethodDescriptor yL_cell.desc).map (fun d => d.parameters.length) = some 2 := by decide +kernel
set_option maxHeartbeats 4000000 in
set_option maxRecDepth 100000 in
theorem c_L_cell (l : Launch) {D : va_G} {cy : Nat → ClassId} {A : Nat → Nat} {G : Nat → Bool} {M : Mem} {sz b L : Nat} {xs : Nat → Int32} {k : Int32} (hL : L < 2147483648) (hk : ¬ k < 0) : Met l yL_cell (wm yL_cell cL_cell 2 (some .int)) ({ frames := 0, cells := 0, slots := 0, locals := 0 } : Room) (va_Pc [.ref b, .int k] (PrC D cy A G M sz b L xs)) (va_Qi (fun (r' : Int32) (u : Mem) => r' = cv xs L k ∧ u = M) (Po D cy A G (Fr A G sz)) (Fr A G sz)) 0 0 (Fr A G sz) := by
  refine Met.ofW (cc := cL_cell) (maxL := 2) (ret := some .int) (by decide +kernel) rfl ?_
  intro p e s m args below meth c s₁ B hml hv
  obtain ⟨rfl, ⟨hsz, hP, hK, hD0⟩, hX⟩ := hv
  subst hsz
  have hl := lv_entry [.ref b, .int k] (n := 2) (Nat.le_of_ble_eq_true rfl)
  rw [lg_entry_eq]
  have hx := B.exec
  have hb := B.bytes
  have hr := B.returns
  have hlocks := B.notSynchronized
  have hw : WD D cy (Fr A G s.heap.size) A s.heap G M s.heap [] := ⟨hP, wl_Fr hD0, va_S.rf⟩
  have hbl : b < s.heap.size := by
    obtain ⟨scr, h1, -⟩ := hX
    exact (Array.getElem?_eq_some_iff.mp h1).1
  have hS0 : va_S (fun _ => False) s.heap s.heap [] := va_S.rf
  generalize (lg_sl [.ref b, .int k] ++ List.replicate (2 - (lg_sl [.ref b, .int k]).length) Slot.unset).toArray = ls at hl ⊢
  have hl : lv_has ls 2 [(0, .ref b), (1, .int k)] := hl
  refine lv_iload_n hx hb dL_cell_0 rfl (lv_at hl 1 rfl) ?_
  refine lv_aload_n hx hb dL_cell_1 rfl (lv_at hl 0 rfl) ?_
  refine va_slen (A := fun _ => False) hx hb hX hbl (fun h => h) hS0 dL_cell_2 ?_
  refine lv_icmp_ge (tgt := 12) hx hb dL_cell_3 (by decide) (fun hq => ?_) (fun hq => ?_)
  · have hv : cv xs L k = 7919 * (k + 3) * (k + 11) := if_pos hq
    refine lv_sipush (v := 7919) hx hb dL_cell_12 (by decide) ?_
    refine lv_iload_n hx hb dL_cell_15 rfl (lv_at hl 1 rfl) ?_
    refine lv_iconst (v := 3) hx hb dL_cell_16 (by decide) ?_
    refine lv_iadd hx hb dL_cell_17 ?_
    refine lv_imul hx hb dL_cell_18 ?_
    refine lv_iload_n hx hb dL_cell_19 rfl (lv_at hl 1 rfl) ?_
    refine lv_bipush (v := 11) hx hb dL_cell_20 (by decide) ?_
    refine lv_iadd hx hb dL_cell_22 ?_
    refine lv_imul hx hb dL_cell_23 ?_
    rw [← hv]
    exact eI hx hb hr hlocks hK hw dL_cell_24
  · have hv : cv xs L k = xs k.toNatClampNeg := if_neg hq
    have hin : vp_in k L := by
      rintro (h | h)
      · exact hk h
      · obtain ⟨j, hj, rfl⟩ := nI_of hk
        rw [nI_clamp hj] at h
        exact hq (nI_le h (by omega))
    refine lv_aload_n hx hb dL_cell_6 rfl (lv_at hl 0 rfl) ?_
    refine lv_iload_n hx hb dL_cell_7 rfl (lv_at hl 1 rfl) ?_
    refine va_sld (A := fun _ => False) hx hb hX hbl (fun h => h) hS0 hin dL_cell_8 ?_
    refine lv_goto (tgt := 24) hx hb dL_cell_9 (by decide) ?_
    rw [← hv]
    exact eI hx hb hr hlocks hK hw dL_cell_24
section LROWS
variable {p : Program} {l : Launch} {e : Env} {R : Room} {s : State} {m : MethodId} {args : Array Value} {below : List Frame} {meth : Method} {c : Code} {H : Heap} {locs : List Loc} {cells slots : Nat} {Q : State → Prop}
variable {cc : ByteArray} {pc : Nat} {ls : Array Slot} {rest st0 : List Value} {D : va_G} {cy : Nat → ClassId} {As : Nat → Prop} {A A1 : Nat → Nat} {H0 : Heap} {G G1 : Nat → Bool} {M M1 : Mem}
variable {y : MethodName} {bc : ByteArray} {maxL nL mc ms index n b L : Nat} {xs : Nat → Int32} {ret : Option FieldType} {rm : Room} {Qc : Array Value → State → Outcome → State → Prop} {free : Addr → Prop} {own : String} {a : Array Value} {av : List Value}
theorem lv_lcmp (hexec : p.tables.exec = Jvm.exec) (hb : c.code = cc) {x y : Int64} (hdg : decode cc pc = .ok (.lcmp, 1))
    (k : ∀ v : Int32, (v = 0 ↔ x = y) → W p l e R s m args below meth c H locs cells slots Q (F0 m (pc + 1) ls (.int v :: rest))) : W p l e R s m args below meth c H locs cells slots Q (F0 m pc ls (.long y :: .long x :: rest)) := by
  intro T hT X
  by_cases h1 : x > y
  · obtain ⟨t, a, b⟩ := k 1 ⟨fun h => absurd h (by decide), fun h => absurd h (by
      have := Int64.lt_iff_toInt_lt.mp h1
      intro h2
      rw [h2] at this
      omega)⟩ T hT X
    refine ⟨t, ?_, b⟩
    jvm_step X.here [X.here.top, hexec, hb, hdg, h1]
    exact a
  · by_cases h2 : x = y
    · obtain ⟨t, a, b⟩ := k 0 ⟨fun _ => h2, fun _ => rfl⟩ T hT X
      refine ⟨t, ?_, b⟩
      subst h2
      jvm_step X.here [X.here.top, hexec, hb, hdg, h1]
      exact a
    · obtain ⟨t, a, b⟩ := k (-1) ⟨fun h => absurd h (by decide), fun h => absurd h h2⟩ T hT X
      refine ⟨t, ?_, b⟩
      have h3 : (x == y) = false := beq_eq_false_iff_ne.mpr h2
      jvm_step X.here [X.here.top, hexec, hb, hdg, h1, h2, h3]
      exact a
/-- one that may add a state, and answers an int -/
theorem kiG {w : Int32 × (Nat → Bool) × Mem} (hw : WD D cy As A H0 G M H locs) (hA : ∀ q, H0.size ≤ q → As q) (hr : va_Run p l e R s m args below meth c H locs cells slots mc ms (F0 m pc ls st0) rest (va_Qi (fun r' (A1 : Nat → Nat) => r' = w.1 ∧ ∀ c, inL G c = true → A1 c = A c ∧ inL w.2.1 c = true) (fun A1 t => Px D cy A1 w.2.1 (Fr A G H.size) w.2.2 t) (Fr A G H.size) a) (Fr A G H.size))
    (kk : ∀ A1 : Nat → Nat, (∀ c, inL G c = true → A1 c = A c ∧ inL w.2.1 c = true) → ∀ (H1 : Heap) (locs1 : List Loc), WD D cy As A1 H0 w.2.1 w.2.2 H1 locs1 → W p l e R s m args below meth c H1 locs1 (cells + mc) (slots + ms) Q (F0 m (pc + 3) ls (.int w.1 :: rest))) : W p l e R s m args below meth c H locs cells slots Q (F0 m pc ls st0) :=
  va_calli hr hw.2.2 (fun q _ h => Fr_As hw hA q h) (Fr_As hw hA) (fun r' A1 t H1 locs1 ht _ hp hB _ _ hS => by
    obtain ⟨rfl, hp⟩ := hp
    exact kk A1 hp H1 locs1 (wdX hw hA ht hB hS))
/-- the call of one that reads the script too -/
theorem rC (hx : p.tables.exec = Jvm.exec) (hb : c.code = cc) (hml : c.maxLocals = nL) (hts : ∀ w ∈ LW, w.before args s = true) (hown : s.vm.findClass own = some m.cls) (hK : KK D cy s) (hX : va_X b L xs s s.heap) (hbl : b < s.heap.size) (hw : WD D cy (LAs s) A s.heap G M H locs) {av : List Value}
    (hM : Met l y (wm y bc maxL ret) rm (va_Pc av (PrC D cy A G M H.size b L xs)) Qc mc ms free) {n : Nat} (hcw : CallB R s args own index y bc maxL ret (wm y bc maxL ret) rm mc ms n ∧ (Cond.static y).before args s = true) (hn : av.length = n) (hl : ls.size = nL) (hst : st0 = av.reverse ++ rest) (hroom : (rest.map fun v => v.category).sum ≤ 8) (hdg : decode cc pc = .ok (.invokestatic index, 3)) (hf : cells + mc ≤ R.cells ∧ slots + ms ≤ R.slots) :
    va_Run p l e R s m args below meth c H locs cells slots mc ms (F0 m pc ls st0) rest (Qc av.toArray) free :=
  va_runS ⟨hx, hb, hml, hown, hts⟩ hM hcw ⟨PrC.blind, fun U hU hW => ⟨(preU hK hw rfl U hU hW).1, (preU (av := av) hK hw rfl U hU hW).2, by
    rw [hU]
    exact va_X.moved hW.alike (hX.kept (hw.2.2.2.1 b hbl (Nat.not_le.mpr hbl)))⟩⟩ rfl hn hl hst (lv_room (pc := pc) (ls := ls) (rest := st0) (m := m) hroom) hdg hf
end LROWS
/-! the law makes its three rows -/
def inA (M : Mem) : Mem := sR 3 (fun _ => 0) (sR 4 (fun _ => 0) (sR 5 (fun _ => 0) M))
theorem cont_rows {A1 A2 : Nat → Nat} {cy : Nat → ClassId} {G G' : Nat → Bool} {M : Mem} {c : Nat} (h64 : 64 ≤ c) (hA : ∀ x, 64 ≤ x → A2 x = A1 x) : cont A2 cy G' (inA M) c = cont A1 cy G M c := by
  have hg : gR (inA M) c = gR M c := by
    show va_up (va_up (va_up (gR M) 5 _) 4 _) 3 _ c = _
    rw [va_up_ne _ _ (by omega), va_up_ne _ _ (by omega), va_up_ne _ _ (by omega)]
  have hk : kd c = 0 ∨ kd c = 1 ∨ kd c = 2 ∨ kd c = 6 ∨ kd c = 7 ∨ kd c = 8 := by
    rw [kd_ge (by omega)]
    unfold kd2
    repeat' split
    all_goals omega
  rcases hk with h | h | h | h | h | h
  · rw [cont_0 h, cont_0 h]
    unfold c0L
    rw [hA _ (by omega), hA _ (by omega), hA _ (by omega), hA _ (by omega)]
    rfl
  · rw [cont_1 h, cont_1 h]
    unfold c1L
    rw [hA _ (by omega), hA _ (by omega)]
    rfl
  · rw [cont_2 h, cont_2 h]
    unfold c2L
    rw [hA _ (by omega), hA _ (by omega)]
    rfl
  · rw [cont_6 h, cont_6 h, hg]
  · rw [cont_7 h, cont_7 h]
    have : (fun l => if l < 4 then some (A2 (c + 25 + 5 * l)) else none) = (fun l => if l < 4 then some (A1 (c + 25 + 5 * l)) else none) := by
      funext l
      rw [hA _ (by omega)]
    rw [this]
  · rw [cont_8 h, cont_8 h]
    have : (fun l => if l < 8 then some (A2 (c + 2 + 3 * l)) else none) = (fun l => if l < 8 then some (A1 (c + 2 + 3 * l)) else none) := by
      funext l
      rw [hA _ (by omega)]
    rw [this]
theorem wl_rows {D : va_G} {cy : Nat → ClassId} {As : Nat → Prop} {A1 A2 : Nat → Nat} {G : Nat → Bool} {M : Mem} {H : Heap} {q3 q4 q5 : Nat} (h7 : G 7 = false) (hA3 : A2 3 = q3) (hA4 : A2 4 = q4) (hA5 : A2 5 = q5) (hA : ∀ x, x ≠ 3 → x ≠ 4 → x ≠ 5 → A2 x = A1 x) (hD0 : va_D As (wl A1 cy G M))
    (hP : va_P D vwCl (wl A1 cy G M ++ [(q3, zrow cy 4)] ++ [(q4, zrow cy 4)] ++ [(q5, zrow cy 8)]) H) (hD : va_D As (wl A1 cy G M ++ [(q3, zrow cy 4)] ++ [(q4, zrow cy 4)] ++ [(q5, zrow cy 8)])) :
    va_P D vwCl (wl A2 cy (va_up G 7 true) (inA M)) H ∧ va_D As (wl A2 cy (va_up G 7 true) (inA M)) := by
  rw [List.append_assoc, List.append_assoc] at hP hD
  obtain ⟨kr, hkr⟩ := wl_get (A := A1) (cy := cy) (M := M) (sm_in (G := G) (show 2 < 3 by omega))
  rw [cont_9 rfl] at hkr
  have hkl : kr < (wl A1 cy G M).length := (List.getElem?_eq_some_iff.mp hkr).1
  have hring : ∀ j, j < 4 → (fun j => if G j then some (A1 (128 + 64 * j)) else none) j = (fun j => if va_up G 7 true j then some (A2 (128 + 64 * j)) else none) j := fun j hj => by
    show (if G j = true then some (A1 (128 + 64 * j)) else none) = (if va_up G 7 true j = true then some (A2 (128 + 64 * j)) else none)
    rw [va_up_ne _ _ (show j ≠ 7 by omega), hA _ (by omega) (by omega) (by omega)]
  have hP2 : va_P D vwCl ((wl A1 cy G M).set kr (A1 2, .inl (cy 3, 4, va_refs (fun j => if va_up G 7 true j then some (A2 (128 + 64 * j)) else none))) ++ ([(q3, zrow cy 4)] ++ ([(q4, zrow cy 4)] ++ [(q5, zrow cy 8)]))) H := by
    refine va_P.app (fun k q hk => ?_) (va_P_r hP)
    by_cases hq : k = kr
    · subst hq
      rw [List.getElem?_set_self hkl] at hk
      have h1 := va_P_l hP k _ hkr
      have e : q = (A1 2, .inl (cy 3, 4, va_refs (fun j => if va_up G 7 true j then some (A2 (128 + 64 * j)) else none))) := (Option.some.inj hk).symm
      subst e
      show H[A1 2]? = some (vp_cell (cy 3) (4, va_refs _))
      rw [← vp_q_congr hring]
      exact h1
    · rw [List.getElem?_set_ne (Ne.symm hq)] at hk
      exact va_P_l hP k q hk
  have hD2 : va_D As ((wl A1 cy G M).set kr (A1 2, .inl (cy 3, 4, va_refs (fun j => if va_up G 7 true j then some (A2 (128 + 64 * j)) else none))) ++ ([(q3, zrow cy 4)] ++ ([(q4, zrow cy 4)] ++ [(q5, zrow cy 8)]))) := by
    refine va_D_fst ?_ hD
    simp only [List.map_append]
    congr 1
    rw [List.map_set]
    apply List.ext_getElem?
    intro i
    by_cases hq : i = kr
    · subst hq
      rw [List.getElem?_set_self (by rw [List.length_map]; exact hkl), List.getElem?_map, hkr]
      rfl
    · rw [List.getElem?_set_ne (Ne.symm hq)]
  have hpk : ∀ c, inL G c = true → ∃ k, (Lc G)[k]? = some c := fun c h => List.getElem?_of_mem (mem_Lc.mpr h)
  have hlen : ((wl A1 cy G M).set kr (A1 2, .inl (cy 3, 4, va_refs (fun j => if va_up G 7 true j then some (A2 (128 + 64 * j)) else none)))).length = (Lc G).length := by
    rw [List.length_set]; unfold wl; rw [List.length_map]
  have old : ∀ c, inL (va_up G 7 true) c = true → ¬ (c = 3 ∨ c = 4 ∨ c = 5) → inL G c = true ∧ (c < 3 ∨ 64 ≤ c) := by
    intro c h1 h2
    rcases inL_iff.mp h1 with h3 | ⟨h3, -⟩ | ⟨a, b, d, f⟩
    · exact ⟨sm_in h3, Or.inl h3⟩
    · exact ⟨sm_in (by omega), Or.inl (by omega)⟩
    · refine ⟨inL_iff.mpr (Or.inr (Or.inr ⟨a, b, d, ?_⟩)), Or.inr a⟩
      rcases f with f | f
      · exact Or.inl f
      · rw [va_up_ne _ _ (show c / 64 - 2 ≠ 7 by omega)] at f
        exact Or.inr f
  have hn345 : ∀ c, inL G c = true → ¬ (c = 3 ∨ c = 4 ∨ c = 5) := by
    intro c h1 h2
    rcases inL_iff.mp h1 with h3 | ⟨-, h3⟩ | ⟨a, b, d, f⟩
    · omega
    · rw [h7] at h3; cases h3
    · omega
  refine wl_of hP2 hD2 (fun c => if hc : inL G c = true then Classical.choose (hpk c hc) else (Lc G).length + (c - 3)) (fun c hc => ?_) (fun c d hc hd hcd => ?_)
  · by_cases h2 : c = 3 ∨ c = 4 ∨ c = 5
    · rw [dif_neg (fun q => hn345 c q h2), List.getElem?_append_right (by rw [hlen]; omega), hlen, Nat.add_sub_cancel_left]
      have hgz : gR (inA M) c = fun _ => 0 := by
        rcases h2 with rfl | rfl | rfl <;> rfl
      rcases h2 with rfl | rfl | rfl
      · rw [cont_6 rfl, hgz, hA3]; rfl
      · rw [cont_6 rfl, hgz, hA4]; rfl
      · rw [cont_6 rfl, hgz, hA5]; rfl
    · obtain ⟨hc1, hcc⟩ := old c hc h2
      rw [dif_pos hc1]
      have hk := Classical.choose_spec (hpk c hc1)
      generalize Classical.choose (hpk c hc1) = k at hk
      have hwk : (wl A1 cy G M)[k]? = some (A1 c, cont A1 cy G M c) := by unfold wl; rw [List.getElem?_map, hk]; rfl
      have hkl2 : k < (wl A1 cy G M).length := (List.getElem?_eq_some_iff.mp hwk).1
      rw [List.getElem?_append_left (by rw [List.length_set]; exact hkl2), hA c (by omega) (by omega) (by omega)]
      by_cases h9 : c = 2
      · subst h9
        obtain ⟨d, hd, -, hq⟩ := wl_at hkr
        have : k = kr := wl_inj hD0 hk hd (congrArg Prod.fst hq)
        subst this
        rw [List.getElem?_set_self hkl, cont_9 rfl]
      · have hkk : kr ≠ k := by
          intro q
          subst q
          have := hwk.symm.trans hkr
          have e := congrArg Prod.snd (Option.some.inj this)
          rcases hcc with hcc | hcc
          · rcases (show c = 0 ∨ c = 1 by omega) with rfl | rfl
            · rw [cont_4 rfl] at e; cases e
            · rw [cont_3 rfl] at e; cases e
          · obtain ⟨d, hd, -, hq⟩ := wl_at hkr
            have hcd : c = d := Option.some.inj (hk.symm.trans hd)
            obtain ⟨k2, hk2⟩ := hpk 2 (sm_in (by omega))
            have h5 := wl_inj hD0 hk2 hk (congrArg Prod.fst hq |>.trans (by rw [hcd]))
            rw [h5] at hk2
            exact h9 (Option.some.inj (hk.symm.trans hk2))
        rw [List.getElem?_set_ne hkk, hwk]
        congr 2
        rcases hcc with hcc | hcc
        · rcases (show c = 0 ∨ c = 1 by omega) with rfl | rfl
          · rw [cont_4 rfl, cont_4 rfl]
            unfold c4L
            rw [hA 64 (by omega) (by omega) (by omega), hA 1 (by omega) (by omega) (by omega)]
          · rw [cont_3 rfl, cont_3 rfl]
            unfold c3L
            rw [hA 2 (by omega) (by omega) (by omega)]
            rfl
        · exact (cont_rows hcc (fun x hx => hA x (by omega) (by omega) (by omega))).symm
  · by_cases h1 : inL G c = true <;> by_cases h2 : inL G d = true
    · rw [dif_pos h1, dif_pos h2] at hcd
      have e1 := Classical.choose_spec (hpk c h1)
      have e2 := Classical.choose_spec (hpk d h2)
      rw [hcd] at e1
      exact Option.some.inj (e1.symm.trans e2)
    · rw [dif_pos h1, dif_neg h2] at hcd
      have e1 := (List.getElem?_eq_some_iff.mp (Classical.choose_spec (hpk c h1))).1
      omega
    · rw [dif_neg h1, dif_pos h2] at hcd
      have e1 := (List.getElem?_eq_some_iff.mp (Classical.choose_spec (hpk d h2))).1
      omega
    · rw [dif_neg h1, dif_neg h2] at hcd
      have f1 : c = 3 ∨ c = 4 ∨ c = 5 := Decidable.byContradiction fun q => h1 (old c hc q).1
      have f2 : d = 3 ∨ d = 4 ∨ d = 5 := Decidable.byContradiction fun q => h2 (old d hd q).1
      omega
section LAWR
variable {p : Program} {l : Launch} {e : Env} {s : State} {m : MethodId} {below : List Frame} {meth : Method} {c : Code} {D : va_G} {cy : Nat → ClassId} {b L : Nat} {xs : Nat → Int32}
set_option maxHeartbeats 4000000 in
set_option maxRecDepth 100000 in
theorem law_rows (C0 : LC p l s m meth c b L xs D cy) {A1 : Nat → Nat} {G : Nat → Bool} {M : Mem} {H : Heap} {locs : List Loc} {cells slots : Nat} {ls : Array Slot} {v1 : Nat} {v2 : Int32} (hv1 : inL G v1 = true) (h7 : G 7 = false) (hw : WD D cy (LAs s) A1 s.heap G M H locs) (hl : lv_has ls 21 [(0, .ref b), (1, .ref (A1 v1)), (2, .int v2)]) (hcs : cells + 3 ≤ 600130 ∧ slots + 16 ≤ 7301080)
    (kk : ∀ A2 : Nat → Nat, (∀ c, inL G c = true → A2 c = A1 c ∧ inL (va_up G 7 true) c = true) → va_up G 7 true 7 = true → ∀ (H : Heap) (locs : List Loc) (ls : Array Slot), WD D cy (LAs s) A2 s.heap (va_up G 7 true) (inA M) H locs → lv_has ls 21 [(5, .ref (A2 5)), (4, .ref (A2 4)), (3, .ref (A2 3)), (0, .ref b), (1, .ref (A2 v1)), (2, .int v2)] → WL p l e s m below meth c b H locs (cells + 3) (slots + 16) (F0 m 59 ls [])) : WL p l e s m below meth c b H locs cells slots (F0 m 44 ls []) := by
  obtain ⟨hx, hb, hr, hlocks, hml, hown, hts, hK, hX, hbl, hL⟩ := id C0
  have hA : ∀ q : Nat, s.heap.size ≤ q → LAs s q := fun _ h => h
  obtain ⟨hP, hD, hS⟩ := hw
  have hD0 := hD
  refine lv_iconst (v := 4) hx hb dL_law_44 (by decide) ?_
  refine nwI (N := 4) hx hb hts hK hP hD hS hA (by decide) (by decide) (Nat.le_of_ble_eq_true rfl) (show cells + 1 ≤ 600130 by omega) (show slots + 4 ≤ 7301080 by omega) dL_law_45 (fun q3 H hP hD hS => ?_)
  refine lv_astore_n (lv' := [(3, .ref q3), (0, .ref b), (1, .ref (A1 v1)), (2, .int v2)]) hx hb dL_law_47 rfl hl (by decide) rfl (fun ls hl => ?_)
  refine lv_iconst (v := 4) hx hb dL_law_48 (by decide) ?_
  refine nwI (N := 4) hx hb hts hK hP hD hS hA (by decide) (by decide) (Nat.le_of_ble_eq_true rfl) (show cells + 1 + 1 ≤ 600130 by omega) (show slots + 4 + 4 ≤ 7301080 by omega) dL_law_49 (fun q4 H hP hD hS => ?_)
  refine lv_astore (lv' := [(4, .ref q4), (3, .ref q3), (0, .ref b), (1, .ref (A1 v1)), (2, .int v2)]) hx hb dL_law_51 hl (by decide) rfl (fun ls hl => ?_)
  refine lv_bipush (v := 8) hx hb dL_law_53 (by decide) ?_
  refine nwI (N := 8) hx hb hts hK hP hD hS hA (by decide) (by decide) (Nat.le_of_ble_eq_true rfl) (show cells + 1 + 1 + 1 ≤ 600130 by omega) (show slots + 4 + 4 + 8 ≤ 7301080 by omega) dL_law_55 (fun q5 H hP hD hS => ?_)
  refine lv_astore (lv' := [(5, .ref q5), (4, .ref q4), (3, .ref q3), (0, .ref b), (1, .ref (A1 v1)), (2, .int v2)]) hx hb dL_law_57 hl (by decide) rfl (fun ls hl => ?_)
  have hn1 : v1 ≠ 3 ∧ v1 ≠ 4 ∧ v1 ≠ 5 := by
    rcases inL_iff.mp hv1 with h | ⟨-, h⟩ | h
    · omega
    · rw [h7] at h; cases h
    · omega
  have hold : ∀ c, inL G c = true → c ≠ 3 ∧ c ≠ 4 ∧ c ≠ 5 := by
    intro c hc
    rcases inL_iff.mp hc with h | ⟨-, h⟩ | h
    · omega
    · rw [h7] at h; cases h
    · omega
  obtain ⟨A2, h3, h4, h5, hAo⟩ : ∃ A2 : Nat → Nat, A2 3 = q3 ∧ A2 4 = q4 ∧ A2 5 = q5 ∧ ∀ x, x ≠ 3 → x ≠ 4 → x ≠ 5 → A2 x = A1 x := ⟨fun x => if x = 3 then q3 else if x = 4 then q4 else if x = 5 then q5 else A1 x, rfl, rfl, rfl, fun x a b d => by
    show (if x = 3 then q3 else if x = 4 then q4 else if x = 5 then q5 else A1 x) = A1 x
    rw [if_neg a, if_neg b, if_neg d]⟩
  obtain ⟨hP, hD⟩ := wl_rows h7 h3 h4 h5 hAo hD0 hP hD
  refine W.cs (cells' := cells + 3) (slots' := slots + 16) (by omega) (by omega) ?_
  refine kk A2 (fun c hc => ⟨hAo c (hold c hc).1 (hold c hc).2.1 (hold c hc).2.2, ?_⟩) (va_up_self _ _ _) H locs ls ⟨hP, hD, hS⟩ ?_
  · rcases inL_iff.mp hc with h | ⟨-, h⟩ | ⟨x, y, z, f⟩
    · exact sm_in h
    · rw [h7] at h; cases h
    · refine inL_iff.mpr (Or.inr (Or.inr ⟨x, y, z, ?_⟩))
      rcases f with f | f
      · exact Or.inl f
      · exact Or.inr (by rw [va_up_ne _ _ (show c / 64 - 2 ≠ 7 by omega)]; exact f)
  · rw [h3, h4, h5, hAo v1 hn1.1 hn1.2.1 hn1.2.2]
    exact hl
end LAWR
