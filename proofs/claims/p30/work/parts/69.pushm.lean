/-! the ring takes the state -/
theorem ini_ne {B c : Nat} {M : Mem} (h : c / 64 ≠ B / 64) : gF (ini B M) c = gF M c ∧ gR (ini B M) c = gR M c := ⟨by
  funext k
  exact if_neg h, if_neg h⟩
theorem ini_Nm {B : Nat} {M : Mem} (hB : B % 64 = 0) : Nm B (ini B M) := fun l hl => by
  show (if (B + 27 + 5 * l) / 64 = B / 64 then (if kd2 ((B + 27 + 5 * l) % 64) = 0 ∧ 0 = 0 then nI (((B + 27 + 5 * l) % 64 - 27) / 5) else 0) else _) = _
  rw [if_pos (by omega), show (B + 27 + 5 * l) % 64 = 27 + 5 * l by omega, if_pos ⟨(by
    rcases (show l = 0 ∨ l = 1 ∨ l = 2 ∨ l = 3 by omega) with rfl | rfl | rfl | rfl <;> rfl), rfl⟩, show (27 + 5 * l - 27) / 5 = l by omega]
theorem pushb_ok {M : Mem} {G : Nat → Bool} {r : Nat → Int32} {n nx nc lc : Nat} (hn : n ≤ 4) (hx : nx < 4) (h0 : gF M 1 0 = nI n) (h1 : gF M 1 1 = nI nx) (hI : Inv r nc lc) (hR : RC 64 r M) (hm : Nm (128 + 64 * nx) M) :
    ∃ M1, m_X4_push_b52 1 64 (128 + 64 * nx) G M = some (G, M1) ∧ RC (128 + 64 * nx) r M1 ∧ Nm (128 + 64 * nx) M1 ∧ gF M1 1 0 = nI (if n = 4 then 4 else n + 1) ∧ gF M1 1 1 = nI ((nx + 1) % 4) ∧ (∀ c, c ≠ 1 → c / 64 ≠ nx + 2 → gF M1 c = gF M c ∧ gR M1 c = gR M c) ∧ gR M1 1 = gR M 1 ∧ M1.2.2 = M.2.2 := by
  obtain ⟨N, e1, c1, c2, c3⟩ := take_ok (a := 128 + 64 * nx) (b := 64) hI (by omega) (by omega) (by omega) hR hm
  have g1 : gF N 1 = gF M 1 := (c3.1 1 (by omega)).1
  have hs : nI nx + 1 - (nI nx + 1) / 4 * 4 = nI ((nx + 1) % 4) := by
    rw [nI_1]
    exact nI_rem (b := 4) (by omega) (by omega)
  have hd : (if (4 : Int32) < nI (n + 1) then 4 else nI (n + 1)) = nI (if n = 4 then 4 else n + 1) := by
    by_cases h4 : n = 4
    · subst h4; rfl
    · rw [if_neg (show ¬ (4 : Int32) < nI (n + 1) from nI_nlt (b := n + 1) (a := 4) (by omega) (by omega)), if_neg h4]
  unfold m_X4_push_b52
  rw [e1, bind_s, g1, h1, hs, gF_ne (by decide), g1, h0, nI_1, hd]
  refine ⟨_, rfl, ?_, fun l hl => ?_, gF_self, ?_, fun c hc hc2 => ⟨?_, ?_⟩, ?_, c3.2⟩
  · exact RC.ext hI (fun _ _ => rfl) (fun c h1 h2 => ⟨(gF_sF_ne (by omega)).trans (gF_sF_ne (by omega)), rfl⟩) c1
  · rw [gF_sF_ne (by omega), gF_sF_ne (by omega)]; exact c2 l hl
  · rw [gF_ne (by decide), gF_self]
  · rw [gF_sF_ne hc, gF_sF_ne hc]; exact (c3.1 c (by omega)).1
  · exact (c3.1 c (by omega)).2
  · exact (c3.1 1 (by omega)).2
theorem push_ok {M : Mem} {G : Nat → Bool} {r : Nat → Int32} {n nx nc lc : Nat} (hn : n ≤ 4) (hx : nx < 4) (h0 : gF M 1 0 = nI n) (h1 : gF M 1 1 = nI nx) (hI : Inv r nc lc) (hR : RC 64 r M) (hN : Num G M) :
    ∃ G1 M1, m_X4_push 1 64 G M = some (G1, M1) ∧ (∀ i, G1 i = true ↔ G i = true ∨ i = nx) ∧ RC (128 + 64 * nx) r M1 ∧ Nm (128 + 64 * nx) M1 ∧ gF M1 1 0 = nI (if n = 4 then 4 else n + 1) ∧ gF M1 1 1 = nI ((nx + 1) % 4) ∧ (∀ c, c ≠ 1 → c / 64 ≠ nx + 2 → gF M1 c = gF M c ∧ gR M1 c = gR M c) ∧ M1.2.2 = M.2.2 := by
  unfold m_X4_push
  rw [h1, if_neg (nI_pos (by omega)), if_pos (show nI nx < 4 from nI_lt (b := 4) hx (by omega)), ck_ix hx (by omega), cl_nI (by omega)]
  by_cases hg : G nx = true
  · rw [show rg G nx = some (128 + 64 * nx) from if_pos hg]
    obtain ⟨M1, e1, a1, a2, a3, a4, a5, -, a6⟩ := pushb_ok (G := G) hn hx h0 h1 hI hR (fun l hl => (hN l hl).2 nx hx hg)
    exact ⟨G, M1, e1, fun i => ⟨Or.inl, fun q => q.elim id (fun q => by rw [q]; exact hg)⟩, a1, a2, a3, a4, a5, a6⟩
  · rw [show rg G nx = none from if_neg hg]
    have e : ∀ c, c / 64 ≠ nx + 2 → gF (ini (128 + 64 * nx) M) c = gF M c ∧ gR (ini (128 + 64 * nx) M) c = gR M c := fun c hc => ini_ne (by omega)
    have e1 := e 1 (by omega)
    obtain ⟨M1, e2, a1, a2, a3, a4, a5, -, a6⟩ := pushb_ok (G := va_up G nx true) (M := ini (128 + 64 * nx) M) hn hx (by rw [e1.1]; exact h0) (by rw [e1.1]; exact h1) hI (RC.ext hI (fun _ _ => rfl) (fun c h1 h2 => e c (by omega)) hR) (ini_Nm (by omega))
    refine ⟨va_up G nx true, M1, e2, fun i => ?_, a1, a2, a3, a4, fun c hc hc2 => ⟨((a5 c hc hc2).1).trans (e c hc2).1, ((a5 c hc hc2).2).trans (e c hc2).2⟩, a6⟩
    by_cases hi : i = nx
    · rw [hi, va_up_self]
      exact ⟨fun _ => Or.inr rfl, fun _ => rfl⟩
    · rw [va_up_ne _ _ hi]
      exact ⟨Or.inl, fun q => q.resolve_right hi⟩
