/-! pairs at war -/
def prI (p q : Nat) : Nat := min p q * 6 + max p q
def pb (i : Nat) : Int64 := (1 : Int64) <<< (Int32.toInt64 (nI i) &&& 63)
theorem x_prI : ∀ p : Nat, p < 6 → ∀ q : Nat, q < 6 → fX5_pair 5000 (nI p) (nI q) = some (pb (prI p q)) := by decide +kernel
def bt (x : Int64) (i : Nat) : Bool := x.toBitVec.getLsbD i
theorem bt_pb : ∀ j : Nat, j < 36 → ∀ i : Nat, i < 64 → bt (pb j) i = decide (i = j) := by decide +kernel
theorem bt_or (x y : Int64) (i : Nat) : bt (x ||| y) i = (bt x i || bt y i) := by
  unfold bt; rw [Int64.toBitVec_or, BitVec.getLsbD_or]
theorem bt_and (x y : Int64) (i : Nat) : bt (x &&& y) i = (bt x i && bt y i) := by
  unfold bt; rw [Int64.toBitVec_and, BitVec.getLsbD_and]
theorem bt_m1 : ∀ i : Nat, i < 64 → bt (-1) i = true := by decide +kernel
theorem bt_not (x : Int64) {i : Nat} (hi : i < 64) : bt (x ^^^ (-1 : Int64)) i = !bt x i := by
  have := bt_m1 i hi
  unfold bt at *
  rw [Int64.toBitVec_xor, BitVec.getLsbD_xor, this, Bool.xor_true]
theorem bt_0 (i : Nat) : bt 0 i = false := by
  unfold bt; exact BitVec.getLsbD_zero
theorem bt_ext {x y : Int64} (h : ∀ i, i < 64 → bt x i = bt y i) : x = y := by
  apply Int64.toBitVec_inj.mp
  apply BitVec.eq_of_getLsbD_eq
  intro i hi
  exact h i hi
theorem pr_lt : ∀ p : Nat, p < 6 → ∀ q : Nat, q < 6 → prI p q < 36 := by decide +kernel
theorem pr_iff : ∀ a : Nat, a < 6 → ∀ b : Nat, b < 6 → ∀ p : Nat, p < 6 → ∀ q : Nat, q < 6 → (((a = p ∧ b = q) ∨ (a = q ∧ b = p)) ↔ prI a b = prI p q) := by decide +kernel
