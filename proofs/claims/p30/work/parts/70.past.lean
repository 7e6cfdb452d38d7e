/-! push and note together keep the past -/
theorem gF_ext {M M' : Mem} {c : Nat} (h : ∀ k, gF M' c k = gF M c k) : gF M' c = gF M c := funext h
