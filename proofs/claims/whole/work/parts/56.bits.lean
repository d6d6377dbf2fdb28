def ob (b : Bool) (i : Nat) : Int64 := if b = true then pb i else 0
def m15 (b1 b2 b3 b4 b5 b6 b7 b8 b9 b10 b11 b12 b13 b14 b15 : Bool) : Int64 :=
  ob b1 1 ||| ob b2 2 ||| ob b3 3 ||| ob b4 4 ||| ob b5 5 ||| ob b6 8 ||| ob b7 9 ||| ob b8 10 ||| ob b9 11 ||| ob b10 15 ||| ob b11 16 ||| ob b12 17 ||| ob b13 22 ||| ob b14 23 ||| ob b15 29
def s15 (b1 b2 b3 b4 b5 b6 b7 b8 b9 b10 b11 b12 b13 b14 b15 : Bool) : Int32 :=
  0 + bN b1 + bN b2 + bN b3 + bN b4 + bN b5 + bN b6 + bN b7 + bN b8 + bN b9 + bN b10 + bN b11 + bN b12 + bN b13 + bN b14 + bN b15
theorem bc_0000 : ∀ b1 b2 b3 b4 b5 b6 b7 b8 b9 b10 b11 : Bool, fJ13_bitCount_95d88 5000 (m15 b1 b2 b3 b4 b5 b6 b7 b8 b9 b10 b11 false false false false) = some (s15 b1 b2 b3 b4 b5 b6 b7 b8 b9 b10 b11 false false false false) := by decide +kernel
theorem bc_0001 : ∀ b1 b2 b3 b4 b5 b6 b7 b8 b9 b10 b11 : Bool, fJ13_bitCount_95d88 5000 (m15 b1 b2 b3 b4 b5 b6 b7 b8 b9 b10 b11 false false false true) = some (s15 b1 b2 b3 b4 b5 b6 b7 b8 b9 b10 b11 false false false true) := by decide +kernel
theorem bc_0010 : ∀ b1 b2 b3 b4 b5 b6 b7 b8 b9 b10 b11 : Bool, fJ13_bitCount_95d88 5000 (m15 b1 b2 b3 b4 b5 b6 b7 b8 b9 b10 b11 false false true false) = some (s15 b1 b2 b3 b4 b5 b6 b7 b8 b9 b10 b11 false false true false) := by decide +kernel
theorem bc_0011 : ∀ b1 b2 b3 b4 b5 b6 b7 b8 b9 b10 b11 : Bool, fJ13_bitCount_95d88 5000 (m15 b1 b2 b3 b4 b5 b6 b7 b8 b9 b10 b11 false false true true) = some (s15 b1 b2 b3 b4 b5 b6 b7 b8 b9 b10 b11 false false true true) := by decide +kernel
theorem bc_0100 : ∀ b1 b2 b3 b4 b5 b6 b7 b8 b9 b10 b11 : Bool, fJ13_bitCount_95d88 5000 (m15 b1 b2 b3 b4 b5 b6 b7 b8 b9 b10 b11 false true false false) = some (s15 b1 b2 b3 b4 b5 b6 b7 b8 b9 b10 b11 false true false false) := by decide +kernel
theorem bc_0101 : ∀ b1 b2 b3 b4 b5 b6 b7 b8 b9 b10 b11 : Bool, fJ13_bitCount_95d88 5000 (m15 b1 b2 b3 b4 b5 b6 b7 b8 b9 b10 b11 false true false true) = some (s15 b1 b2 b3 b4 b5 b6 b7 b8 b9 b10 b11 false true false true) := by decide +kernel
theorem bc_0110 : ∀ b1 b2 b3 b4 b5 b6 b7 b8 b9 b10 b11 : Bool, fJ13_bitCount_95d88 5000 (m15 b1 b2 b3 b4 b5 b6 b7 b8 b9 b10 b11 false true true false) = some (s15 b1 b2 b3 b4 b5 b6 b7 b8 b9 b10 b11 false true true false) := by decide +kernel
theorem bc_0111 : ∀ b1 b2 b3 b4 b5 b6 b7 b8 b9 b10 b11 : Bool, fJ13_bitCount_95d88 5000 (m15 b1 b2 b3 b4 b5 b6 b7 b8 b9 b10 b11 false true true true) = some (s15 b1 b2 b3 b4 b5 b6 b7 b8 b9 b10 b11 false true true true) := by decide +kernel
theorem bc_1000 : ∀ b1 b2 b3 b4 b5 b6 b7 b8 b9 b10 b11 : Bool, fJ13_bitCount_95d88 5000 (m15 b1 b2 b3 b4 b5 b6 b7 b8 b9 b10 b11 true false false false) = some (s15 b1 b2 b3 b4 b5 b6 b7 b8 b9 b10 b11 true false false false) := by decide +kernel
theorem bc_1001 : ∀ b1 b2 b3 b4 b5 b6 b7 b8 b9 b10 b11 : Bool, fJ13_bitCount_95d88 5000 (m15 b1 b2 b3 b4 b5 b6 b7 b8 b9 b10 b11 true false false true) = some (s15 b1 b2 b3 b4 b5 b6 b7 b8 b9 b10 b11 true false false true) := by decide +kernel
theorem bc_1010 : ∀ b1 b2 b3 b4 b5 b6 b7 b8 b9 b10 b11 : Bool, fJ13_bitCount_95d88 5000 (m15 b1 b2 b3 b4 b5 b6 b7 b8 b9 b10 b11 true false true false) = some (s15 b1 b2 b3 b4 b5 b6 b7 b8 b9 b10 b11 true false true false) := by decide +kernel
theorem bc_1011 : ∀ b1 b2 b3 b4 b5 b6 b7 b8 b9 b10 b11 : Bool, fJ13_bitCount_95d88 5000 (m15 b1 b2 b3 b4 b5 b6 b7 b8 b9 b10 b11 true false true true) = some (s15 b1 b2 b3 b4 b5 b6 b7 b8 b9 b10 b11 true false true true) := by decide +kernel
theorem bc_1100 : ∀ b1 b2 b3 b4 b5 b6 b7 b8 b9 b10 b11 : Bool, fJ13_bitCount_95d88 5000 (m15 b1 b2 b3 b4 b5 b6 b7 b8 b9 b10 b11 true true false false) = some (s15 b1 b2 b3 b4 b5 b6 b7 b8 b9 b10 b11 true true false false) := by decide +kernel
theorem bc_1101 : ∀ b1 b2 b3 b4 b5 b6 b7 b8 b9 b10 b11 : Bool, fJ13_bitCount_95d88 5000 (m15 b1 b2 b3 b4 b5 b6 b7 b8 b9 b10 b11 true true false true) = some (s15 b1 b2 b3 b4 b5 b6 b7 b8 b9 b10 b11 true true false true) := by decide +kernel
theorem bc_1110 : ∀ b1 b2 b3 b4 b5 b6 b7 b8 b9 b10 b11 : Bool, fJ13_bitCount_95d88 5000 (m15 b1 b2 b3 b4 b5 b6 b7 b8 b9 b10 b11 true true true false) = some (s15 b1 b2 b3 b4 b5 b6 b7 b8 b9 b10 b11 true true true false) := by decide +kernel
theorem bc_1111 : ∀ b1 b2 b3 b4 b5 b6 b7 b8 b9 b10 b11 : Bool, fJ13_bitCount_95d88 5000 (m15 b1 b2 b3 b4 b5 b6 b7 b8 b9 b10 b11 true true true true) = some (s15 b1 b2 b3 b4 b5 b6 b7 b8 b9 b10 b11 true true true true) := by decide +kernel
theorem bc15 : ∀ b1 b2 b3 b4 b5 b6 b7 b8 b9 b10 b11 b12 b13 b14 b15 : Bool, fJ13_bitCount_95d88 5000 (m15 b1 b2 b3 b4 b5 b6 b7 b8 b9 b10 b11 b12 b13 b14 b15) = some (s15 b1 b2 b3 b4 b5 b6 b7 b8 b9 b10 b11 b12 b13 b14 b15) := by
  intro b1 b2 b3 b4 b5 b6 b7 b8 b9 b10 b11 b12 b13 b14 b15
  cases b12 <;> cases b13 <;> cases b14 <;> cases b15
  · exact bc_0000 b1 b2 b3 b4 b5 b6 b7 b8 b9 b10 b11
  · exact bc_0001 b1 b2 b3 b4 b5 b6 b7 b8 b9 b10 b11
  · exact bc_0010 b1 b2 b3 b4 b5 b6 b7 b8 b9 b10 b11
  · exact bc_0011 b1 b2 b3 b4 b5 b6 b7 b8 b9 b10 b11
  · exact bc_0100 b1 b2 b3 b4 b5 b6 b7 b8 b9 b10 b11
  · exact bc_0101 b1 b2 b3 b4 b5 b6 b7 b8 b9 b10 b11
  · exact bc_0110 b1 b2 b3 b4 b5 b6 b7 b8 b9 b10 b11
  · exact bc_0111 b1 b2 b3 b4 b5 b6 b7 b8 b9 b10 b11
  · exact bc_1000 b1 b2 b3 b4 b5 b6 b7 b8 b9 b10 b11
  · exact bc_1001 b1 b2 b3 b4 b5 b6 b7 b8 b9 b10 b11
  · exact bc_1010 b1 b2 b3 b4 b5 b6 b7 b8 b9 b10 b11
  · exact bc_1011 b1 b2 b3 b4 b5 b6 b7 b8 b9 b10 b11
  · exact bc_1100 b1 b2 b3 b4 b5 b6 b7 b8 b9 b10 b11
  · exact bc_1101 b1 b2 b3 b4 b5 b6 b7 b8 b9 b10 b11
  · exact bc_1110 b1 b2 b3 b4 b5 b6 b7 b8 b9 b10 b11
  · exact bc_1111 b1 b2 b3 b4 b5 b6 b7 b8 b9 b10 b11
