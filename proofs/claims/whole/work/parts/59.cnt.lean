/-- how many -/
def bsum (j : Nat) : Nat → Nat
  | 0 => 0
  | i + 1 => bsum j i + (j.testBit i).toNat
def cnt (j : Nat) : Nat := bsum j 12
theorem pc_cnt : ∀ j : Nat, j < 4096 → pc (nI j) = nI (cnt j) := all4096 (by decide +kernel)
theorem m_bit : ∀ s : Nat, s < 4096 → ∀ e : Nat, e < 12 → (((nI s >>> (nI e &&& 31)) &&& (1 : Int32)) = 1 ↔ s.testBit e = true) := all4096 (by decide +kernel)
