/-- addNode -/
theorem aI_0 {q : Nat} {v : Int32} {M : Mem} : aI q 0 v M = sR q (upd (gR M q) 0 v) M := aI_nI (k := 0) (by omega)
