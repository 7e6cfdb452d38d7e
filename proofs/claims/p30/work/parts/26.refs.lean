/-! the store's ways to a node or a ledger: of what kind their code is -/
theorem t_X5_existingNode {G : Nat → Bool} {a0 q : Nat} {x1 : Int32} {M : Mem} (h0 : TT G 4 a0) (hm : m_X5_existingNode a0 x1 M = some q) : TT G 1 q := by
  unfold m_X5_existingNode at hm
  obtain ⟨z2, e2, hm⟩ := Option.bind_eq_some_iff.mp hm
  cases z2 with
  | none => cases (show (none : Option Nat) = some q from hm)
  | some b =>
    cases Option.some.inj hm
    exact t_X3_node (ls_n h0) e2
theorem t_X5_existingLedger {G : Nat → Bool} {a0 q : Nat} {x1 : Int32} {M : Mem} (h0 : TT G 4 a0) (hm : m_X5_existingLedger a0 x1 M = some q) : TT G 0 q := by
  unfold m_X5_existingLedger at hm
  obtain ⟨z2, e2, hm⟩ := Option.bind_eq_some_iff.mp hm
  cases z2 with
  | none => cases (show (none : Option Nat) = some q from hm)
  | some b =>
    cases Option.some.inj hm
    exact t_X3_ledger (ls_n h0) e2
