def ob (b : Bool) (i : Nat) : Int64 := if b = true then pb i else 0
def m15 (b1 b2 b3 b4 b5 b6 b7 b8 b9 b10 b11 b12 b13 b14 b15 : Bool) : Int64 :=
  ob b1 1 ||| ob b2 2 ||| ob b3 3 ||| ob b4 4 ||| ob b5 5 ||| ob b6 8 ||| ob b7 9 ||| ob b8 10 ||| ob b9 11 ||| ob b10 15 ||| ob b11 16 ||| ob b12 17 ||| ob b13 22 ||| ob b14 23 ||| ob b15 29
theorem bc15 : ∀ b1 b2 b3 b4 b5 b6 b7 b8 b9 b10 b11 b12 b13 b14 b15 : Bool, fJ13_bitCount_95d88 5000 (m15 b1 b2 b3 b4 b5 b6 b7 b8 b9 b10 b11 b12 b13 b14 b15) = some (0 + bN b1 + bN b2 + bN b3 + bN b4 + bN b5 + bN b6 + bN b7 + bN b8 + bN b9 + bN b10 + bN b11 + bN b12 + bN b13 + bN b14 + bN b15) := by
  decide +kernel
