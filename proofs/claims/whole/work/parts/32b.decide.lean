theorem m_bits : ∀ j : Nat, j < 4096 → fX6_bits 5000 (nI j) = some (pc (nI j)) := all4096 (by decide +kernel)
theorem m_dyn : ∀ j : Nat, j < 4096 → (nI j >>> ((11 : Int32) &&& 31) = 1 ↔ ¬ nI j &&& 2048 = 0) := all4096 (by decide +kernel)
theorem m_pc0 : ∀ j : Nat, j < 4096 → ((1 : Int32) + pc (nI j) = 1 ↔ nI j = 0) := all4096 (by decide +kernel)
/-- the greatest figure by the reference's loop -/
def hbM (mark : Int32) : Nat → Int32
  | 0 => mark
  | f + 1 => if ((mark >>> (nI f &&& 31)) &&& 1) = 1 then mark &&& (((1 : Int32) <<< (nI f &&& 31)) ^^^ (-1)) else hbM mark f
theorem hbM_eq : ∀ j : Nat, j < 4096 → hbM (nI j) 12 = nI j &&& (hob (nI j) ^^^ (-1)) := all4096 (by decide +kernel)
