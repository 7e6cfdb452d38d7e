/-! the first memory -/
theorem Top_first : Top G0 M0 := by
  have hr : ∀ c, c / 64 ≠ 1 → gR M0 c = (fun _ => 0) ∧ gF M0 c = (fun _ => 0) := fun c hc => ⟨(ini_ne (B := 64) (M := Zm) (by omega)).2, (ini_ne (B := 64) (M := Zm) (by omega)).1⟩
  have h4 : gR M0 4 = fun _ => 0 := (hr 4 (by omega)).1
  refine ⟨⟨0, 0, ⟨by omega, by omega, by rw [h4]; rfl, by rw [h4]; rfl, fun n hn => absurd hn (Nat.not_lt_zero n), fun n _ hn => ⟨by rw [h4], by rw [h4], fun k _ => by rw [h4], fun l _ => by rw [h4]⟩, fun l hl => absurd hl (Nat.not_lt_zero l), fun l _ hl w _ => by rw [h4]⟩, ?_⟩, fun l hl => ⟨ini_Nm (B := 64) (by omega) l hl, fun i _ hG => absurd (show false = true from hG) (by decide)⟩, 0, 0, by omega, by omega, ?_, ?_, ?_, fun j hj => absurd hj (Nat.not_lt_zero j)⟩
  · rw [h4]
    refine ⟨rfl, rfl, rfl, fun n hn => absurd hn (by rw [show cl ((fun _ => 0 : Nat → Int32) 0) = 0 from rfl]; omega), fun l hl => absurd hl (by rw [show cl ((fun _ => 0 : Nat → Int32) 1) = 0 from rfl]; omega)⟩
  · rw [(hr 1 (by omega)).2]; rfl
  · rw [(hr 1 (by omega)).2]; rfl
  · rw [(hr 3 (by omega)).2]; rfl
