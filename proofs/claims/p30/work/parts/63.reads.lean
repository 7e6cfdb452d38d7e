/-! the calls that only read -/
theorem ne10 {α : Type} {a : α} : ¬ ((1 : Int32), a).1 = 0 := fun q => absurd (show (1 : Int32) = 0 from q) (by decide)
