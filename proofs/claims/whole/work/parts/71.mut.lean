/-! a call that changes the state: what it begins with, and what is left to show -/
/-- M' is M but for the row, what the model threw, and the law's rows -/
def Q4 (M M' : Mem) : Prop := (∀ c, c ≠ 4 → gR M' c = gR M c) ∧ ∀ c k, (c ≠ 3 ∨ k ≠ 3) → gF M' c k = gF M c k
theorem Q4.rf {M : Mem} : Q4 M M := ⟨fun _ _ => rfl, fun _ _ _ => rfl⟩
theorem Q4.row {M M1 : Mem} {f : Nat → Int32} (h : Q4 M M1) : Q4 M (sR 4 f M1) := ⟨fun c hc => (gR_ne hc).trans (h.1 c hc), h.2⟩
theorem Past.q4 {G : Nat → Bool} {M M' : Mem} (q : Q4 M M') (h : Past G M) : Past G M' := by
  obtain ⟨n, nx, k1, k2, k3, k4, k5, k6⟩ := h
  refine ⟨n, nx, k1, k2, (q.2 1 0 (Or.inl (by omega))).trans k3, (q.2 1 1 (Or.inl (by omega))).trans k4, (q.2 3 2 (Or.inr (by omega))).trans k5, fun j hj => ?_⟩
  obtain ⟨g1, nc, lc, g2, g3⟩ := k6 j hj
  have e : pr M' j = pr M j := by
    funext k
    show gR M' 5 _ = gR M 5 _
    rw [q.1 5 (by omega)]
  exact ⟨g1, nc, lc, by rw [e]; exact g2, by
    rw [e]
    exact RC.ext g2 (fun _ _ => rfl) (fun c h1 h2 => ⟨gF_ext fun k => q.2 c k (Or.inl (by omega)), q.1 c (by omega)⟩) g3⟩
theorem begin_mut {G : Nat → Bool} {M : Mem} (h : Top G M) : ∃ nc lc G1 M1, Inv (gR M 4) nc lc ∧ RC 64 (gR M 4) M ∧ m_X4_push 1 64 G M = some (G1, M1) ∧ RC 64 (gR M 4) M1 ∧ Nm 64 M1 ∧ gR M1 4 = gR M 4 ∧
    ∀ M2, Qb M1 M2 → Nm 64 M2 → ∃ M3, m_X6_note 3 M2 = some M3 ∧ gR M3 4 = gR M 4 ∧ gF M3 3 3 = gF M2 3 3 ∧ M3.2.2 = M2.2.2 ∧ (∀ c, c / 64 = 1 → gF M3 c = gF M2 c ∧ gR M3 c = gR M2 c) ∧
      ∀ M4 nc' lc', Q4 M3 M4 → Inv (gR M4 4) nc' lc' → RC 64 (gR M4 4) M2 → Top G1 M4 := by
  obtain ⟨⟨nc, lc, hI, hR⟩, hN, n, nx, hn, hx, h0, h1, h5, hp⟩ := h
  obtain ⟨G1, M1, e1, hG, a1, a2, a3, a4, a5, a6⟩ := push_ok hn hx h0 h1 hI hR hN
  have hb : ∀ c, c / 64 = 1 → gF M1 c = gF M c ∧ gR M1 c = gR M c := fun c hc => a5 c (by omega) (by omega)
  refine ⟨nc, lc, G1, M1, hI, hR, e1, RC.ext hI (fun _ _ => rfl) (fun c h1 h2 => hb c (by omega)) hR, fun l hl => by rw [(hb (64 + 27 + 5 * l) (by omega)).1]; exact (hN l hl).1, (a5 4 (by omega) (by omega)).2, fun M2 hq hm2 => ?_⟩
  obtain ⟨M3, e3, b1, b2, b3, b4, b5, b6⟩ := past_ok hn hx h5 hp hI hG a1 a3 a4 a5 hq
  refine ⟨M3, e3, b3, b4, b5, b2, fun M4 nc' lc' q4 hI4 hR4 => ⟨⟨nc', lc', hI4, ?_⟩, fun l hl => ⟨?_, fun i hi hGi => ?_⟩, b1.q4 q4⟩⟩
  · exact RC.ext hI4 (fun _ _ => rfl) (fun c h1 h2 => ⟨(gF_ext fun k => q4.2 c k (Or.inl (by omega))).trans (b2 c (by omega)).1, (q4.1 c (by omega)).trans (b2 c (by omega)).2⟩) hR4
  · rw [q4.2 _ _ (Or.inl (by omega)), (b2 (64 + 27 + 5 * l) (by omega)).1]
    exact hm2 l hl
  · rw [q4.2 _ _ (Or.inl (by omega)), b6 _ (by omega)]
    by_cases hix : i = nx
    · rw [hix]; exact a2 l hl
    · rw [(a5 _ (by omega) (by omega)).1]
      exact (hN l hl).2 i hi (((hG i).mp hGi).resolve_right hix)
