/-! the law's entry: the classes, the texts, the first world -/
def Zm : Mem := (fun _ _ => 0, fun _ _ => 0, 0, fun _ => 0, fun _ => 0)
def M0 : Mem := ini 64 Zm
def G0 : Nat → Bool := fun _ => false
def A0 (x : Nat → Nat) (u : StU) : Nat → Nat := fun c => if c < 8 then x c else stA (x 64) u (c - 64)
theorem stW_len {cy : Nat → ClassId} {A : Nat → Nat} {B h : Nat} {u : StU} : (stW' cy A B h u).length = 47 := rfl
set_option maxHeartbeats 4000000 in
set_option maxRecDepth 100000 in
theorem entry_world {D : va_G} {cy : Nat → ClassId} {As : Nat → Prop} {x : Nat → Nat} {u : StU} {H : Heap} {tl : va_W} (htl : tl = [(x 1, .inr (3, [.int 0, .int 0, .ref (x 2)])), (x 2, .inl (cy 3, 4, va_refs (fun _ => none))), (x 3, .inr (5, [.ref (x 4), .ref (x 5), .int 0, .int 0, .long 0])), (x 4, zrow cy 3463), (x 5, zrow cy 13852), (x 6, .inl (cy 4, 1, .inr (.inl (fun _ => 0)))), (x 7, .inl (cy 5, 1, .inr (.inr (.inr (.inl (fun _ => 0))))))])
    (hP : va_P D vwCl ([(x 0, .inr (4, [.ref (x 64), .ref (x 1)]))] ++ (stW cy (x 64) u ++ tl)) H) (hD : va_D As ([(x 0, .inr (4, [.ref (x 64), .ref (x 1)]))] ++ (stW cy (x 64) u ++ tl))) :
    va_P D vwCl (wl (A0 x u) cy G0 M0) H ∧ va_D As (wl (A0 x u) cy G0 M0) := by
  have hN : ∀ r, r < 47 → A0 x u (64 + r) = stA (x 64) u r := fun r hr => by
    unfold A0
    rw [if_neg (by omega), Nat.add_sub_cancel_left]
  have hP2 : va_P D vwCl ([(x 0, .inr (4, [.ref (x 64), .ref (x 1)]))] ++ (stW' cy (A0 x u) 64 (x 64) u ++ tl)) H := by
    refine va_P.app (va_P_l hP) (va_P.app (W3_congr (fun j hj => ?_) (fun j hj => ?_) (va_P_l (va_P_r hP))) (va_P_r (va_P_r hP)))
    · rw [if_pos hj, show 64 + 1 + 2 + 3 * j = 64 + (3 + 3 * j) by omega, hN _ (by omega)]
      have e1 : (3 + 3 * j) % 3 = 0 := by omega
      have e2 : (3 + 3 * j - 3) / 3 = j := by omega
      unfold stA
      rw [if_neg (by omega), if_neg (by omega), if_neg (by omega), if_pos (by omega), if_pos e1, e2]
    · rw [if_pos hj, show 64 + 2 + 25 + 5 * j = 64 + (27 + 5 * j) by omega, hN _ (by omega)]
      have e1 : (27 + 5 * j - 27) % 5 = 0 := by omega
      have e2 : (27 + 5 * j - 27) / 5 = j := by omega
      unfold stA
      rw [if_neg (by omega), if_neg (by omega), if_neg (by omega), if_neg (by omega), if_pos e1, e2]
  have hD2 : va_D As ([(x 0, .inr (4, [.ref (x 64), .ref (x 1)]))] ++ (stW' cy (A0 x u) 64 (x 64) u ++ tl)) := by
    refine va_D_fst ?_ hD
    simp only [List.map_append, List.map_cons, List.map_nil]
  have hst := st_at (cy := cy) (A := A0 x u) (G := G0) (M := M0) (B := 64) (h := x 64) (u := u) (by omega) (by omega) hN (fun r j hr => by
    show (if (64 + r) / 64 = 64 / 64 then _ else _) = _
    rw [if_pos (by omega), show (64 + r) % 64 = r by omega]) (fun r hr => by
    show (if (64 + r) / 64 = 64 / 64 then _ else _) = _
    rw [if_pos (by omega)])
  have h64 : A0 x u 64 = x 64 := hN 0 (by omega)
  refine wl_of hP2 hD2 (fun c => if c = 0 then 0 else if c < 8 then 47 + c else c - 63) (fun c hc => ?_) (fun c d hc hd hcd => ?_)
  · rcases inL_iff.mp hc with h8 | ⟨a, b, d, f⟩
    · subst htl
      rcases (show c = 0 ∨ c = 1 ∨ c = 2 ∨ c = 3 ∨ c = 4 ∨ c = 5 ∨ c = 6 ∨ c = 7 by omega) with rfl | rfl | rfl | rfl | rfl | rfl | rfl | rfl
      · rw [cont_4 rfl]; unfold c4L; rw [h64]; rfl
      · rw [cont_3 rfl]; rfl
      · rw [cont_9 rfl]; rfl
      · rw [cont_5 rfl]; rfl
      · rw [cont_6 rfl]; rfl
      · rw [cont_6 rfl]; rfl
      · rw [cont_10 rfl]; rfl
      · rw [cont_11 rfl]; rfl
    · have f : c < 128 := f.resolve_right (fun q => nomatch q)
      show ([(x 0, _)] ++ (stW' cy (A0 x u) 64 (x 64) u ++ tl))[if c = 0 then 0 else if c < 8 then 47 + c else c - 63]? = _
      rw [if_neg (by omega), if_neg (by omega), List.getElem?_append_right (by show 1 ≤ _; omega), List.getElem?_append_left (by rw [stW_len]; show c - 63 - 1 < 47; omega)]
      have h1 := hst (c - 64) (by omega)
      rw [show 64 + (c - 64) = c by omega] at h1
      exact h1
  · have e1 := inL_iff.mp hc
    have e2 := inL_iff.mp hd
    by_cases a1 : c = 0 <;> by_cases a2 : d = 0 <;> by_cases a3 : c < 8 <;> by_cases a4 : d < 8 <;> simp only [a1, a2, a3, a4, if_true, if_false] at hcd <;> omega
