/-! sets of figures as numbers -/
theorem sx_and (a b : Nat) : nI a &&& nI b = nI (a &&& b) := by
  apply Int32.toBitVec_inj.mp
  show BitVec.ofNat 32 a &&& BitVec.ofNat 32 b = BitVec.ofNat 32 (a &&& b)
  apply BitVec.eq_of_getLsbD_eq
  intro i hi
  simp [hi]
theorem sx_xor (a b : Nat) : nI a ^^^ nI b = nI (a ^^^ b) := by
  apply Int32.toBitVec_inj.mp
  show BitVec.ofNat 32 a ^^^ BitVec.ofNat 32 b = BitVec.ofNat 32 (a ^^^ b)
  apply BitVec.eq_of_getLsbD_eq
  intro i hi
  simp [hi]
def dif (j s : Nat) : Nat := j &&& (s ^^^ 4095)
theorem tb_4095 (i : Nat) : Nat.testBit 4095 i = decide (i < 12) := Nat.testBit_two_pow_sub_one 12 i
theorem tb_all (i : Nat) : Nat.testBit 4294967295 i = decide (i < 32) := Nat.testBit_two_pow_sub_one 32 i
theorem tb_hi {j i : Nat} (hj : j < 4096) (hi : 12 ≤ i) : j.testBit i = false := by
  apply Nat.testBit_lt_two_pow
  exact Nat.lt_of_lt_of_le hj (Nat.pow_le_pow_right (by decide) hi : 2 ^ 12 ≤ 2 ^ i)
theorem dif_b (j s i : Nat) : (dif j s).testBit i = (j.testBit i && (s.testBit i ^^ decide (i < 12))) := by
  unfold dif; rw [Nat.testBit_and, Nat.testBit_xor, tb_4095]
theorem dif_lt {j s : Nat} (hj : j < 4096) : dif j s < 4096 := Nat.lt_of_le_of_lt Nat.and_le_left hj
theorem dif_n {j s : Nat} (hj : j < 4096) : nI j &&& (nI s ^^^ (-1 : Int32)) = nI (dif j s) := by
  rw [show (-1 : Int32) = nI 4294967295 from by decide, sx_xor, sx_and]
  congr 1
  apply Nat.eq_of_testBit_eq
  intro i
  rw [dif_b, Nat.testBit_and, Nat.testBit_xor, tb_all]
  by_cases h : i < 12
  · rw [decide_eq_true h, decide_eq_true (show i < 32 by omega)]
  · rw [tb_hi hj (by omega), Bool.false_and, Bool.false_and]
theorem bsum_le {j k : Nat} (h : ∀ i, j.testBit i = true → k.testBit i = true) : ∀ n, bsum j n ≤ bsum k n := by
  intro n
  induction n with
  | zero => exact Nat.le_refl _
  | succ n ih =>
    unfold bsum
    have : (j.testBit n).toNat ≤ (k.testBit n).toNat := by
      cases q : j.testBit n
      · exact Nat.zero_le _
      · rw [h n q]; exact Nat.le_refl _
    omega
theorem bsum_n (j : Nat) : ∀ n, bsum j n ≤ n := by
  intro n
  induction n with
  | zero => exact Nat.le_refl _
  | succ n ih =>
    unfold bsum
    have : (j.testBit n).toNat ≤ 1 := Bool.toNat_le _
    omega
theorem cnt_12 (j : Nat) : cnt j ≤ 12 := bsum_n j 12
theorem cnt_dif (j s : Nat) : cnt (dif j s) ≤ cnt j := bsum_le (fun i h => by rw [dif_b, Bool.and_eq_true] at h; exact h.1) 12
/-- the figures that are up, but for those of a set -/
def togN (j e : Nat) : Nat := if e < 12 then j ^^^ 2 ^ e else j
def mskN (s e : Nat) : Nat := if e < 12 then (if s.testBit e = true then 12 else e) else e
theorem tog_n {j e : Nat} (hj : j < 4096) (he : e ≤ 12) : tog (nI j) (nI e) = nI (togN j e) ∧ togN j e < 4096 := by
  unfold tog togN
  by_cases h : e < 12
  · rw [if_neg (show ¬ (12 : Int32) ≤ nI e from nI_ge (b := 12) h (by decide)), if_pos h, ps_bit e h, sx_xor]
    exact ⟨rfl, Nat.xor_lt_two_pow (n := 12) hj (Nat.pow_lt_pow_right (by decide) h)⟩
  · rw [if_pos (show (12 : Int32) ≤ nI e from nI_le (a := 12) (by omega) (by omega)), if_neg h]
    exact ⟨rfl, hj⟩
theorem togN_dif {j s e : Nat} : togN (dif j s) (mskN s e) = dif (togN j e) s := by
  unfold togN mskN
  by_cases h : e < 12
  · rw [if_pos h, if_pos h]
    cases q : s.testBit e
    · rw [if_neg (show ¬ false = true by decide), if_pos h]
      apply Nat.eq_of_testBit_eq
      intro i
      rw [Nat.testBit_xor, dif_b, dif_b, Nat.testBit_xor, Nat.testBit_two_pow]
      by_cases z : e = i
      · subst z
        rw [q, decide_eq_true h]
        cases j.testBit e <;> simp
      · rw [decide_eq_false z, Bool.xor_false, Bool.xor_false]
    · rw [if_pos rfl, if_neg (show ¬ (12 : Nat) < 12 by decide)]
      apply Nat.eq_of_testBit_eq
      intro i
      rw [dif_b, dif_b, Nat.testBit_xor, Nat.testBit_two_pow]
      by_cases z : e = i
      · subst z
        rw [q, decide_eq_true h]
        cases j.testBit e <;> simp
      · rw [decide_eq_false z, Bool.xor_false]
  · rw [if_neg h, if_neg h, if_neg h]
/-! the best of all: the fewest, then the first -/
def isB (Q : Nat → Bool) (c : Nat → Nat) (lo hi : Nat) : Option Nat → Prop
  | none => ∀ i, lo ≤ i → i < hi → Q i = false
  | some k => lo ≤ k ∧ k < hi ∧ Q k = true ∧ ∀ i, lo ≤ i → i < hi → Q i = true → c k < c i ∨ (c k = c i ∧ k ≤ i)
theorem isB_uniq {Q : Nat → Bool} {c : Nat → Nat} {lo hi : Nat} : ∀ {o p : Option Nat}, isB Q c lo hi o → isB Q c lo hi p → o = p := by
  intro o p h1 h2
  cases o with
  | none =>
    cases p with
    | none => rfl
    | some k =>
      have := h1 k h2.1 h2.2.1
      rw [h2.2.2.1] at this
      cases this
  | some k =>
    cases p with
    | none =>
      have := h2 k h1.1 h1.2.1
      rw [h1.2.2.1] at this
      cases this
    | some l =>
      have a := h1.2.2.2 l h2.1 h2.2.1 h2.2.2.1
      have b := h2.2.2.2 k h1.1 h1.2.1 h1.2.2.1
      have : k = l := by omega
      rw [this]
def stA (Q : Nat → Bool) (c : Nat → Nat) (i : Nat) : Option Nat → Option Nat
  | none => if Q i = true then some i else none
  | some k => if c k ≤ c i then some k else if Q i = true then some i else some k
def stD (Q : Nat → Bool) (c : Nat → Nat) (i : Nat) : Option Nat → Option Nat
  | none => if Q i = true then some i else none
  | some k => if c k < c i then some k else if Q i = true then some i else some k
theorem isB_0 {Q : Nat → Bool} {c : Nat → Nat} {lo : Nat} : isB Q c lo lo none := fun i h1 h2 => by omega
theorem isB_A {Q : Nat → Bool} {c : Nat → Nat} {i : Nat} : ∀ {o : Option Nat}, isB Q c 0 i o → isB Q c 0 (i + 1) (stA Q c i o) := by
  intro o h
  cases o with
  | none =>
    show isB Q c 0 (i + 1) (if Q i = true then some i else none)
    by_cases q : Q i = true
    · rw [if_pos q]
      refine ⟨Nat.zero_le _, by omega, q, fun j _ hj hq => ?_⟩
      by_cases z : j = i
      · subst z; exact Or.inr ⟨rfl, Nat.le_refl _⟩
      · have := h j (Nat.zero_le _) (by omega)
        rw [hq] at this; cases this
    · rw [if_neg q]
      intro j _ hj
      by_cases z : j = i
      · subst z; simpa using q
      · exact h j (Nat.zero_le _) (by omega)
  | some k =>
    obtain ⟨h1, h2, h3, h4⟩ := h
    have keep : (Q i = true → c k ≤ c i) → isB Q c 0 (i + 1) (some k) := fun w => ⟨h1, by omega, h3, fun j _ hj hq => by
      by_cases z : j = i
      · subst z
        have := w hq
        omega
      · exact h4 j (Nat.zero_le _) (by omega) hq⟩
    show isB Q c 0 (i + 1) (if c k ≤ c i then some k else if Q i = true then some i else some k)
    by_cases w : c k ≤ c i
    · rw [if_pos w]
      exact keep (fun _ => w)
    · rw [if_neg w]
      by_cases q : Q i = true
      · rw [if_pos q]
        refine ⟨Nat.zero_le _, by omega, q, fun j _ hj hq => ?_⟩
        by_cases z : j = i
        · subst z; exact Or.inr ⟨rfl, Nat.le_refl _⟩
        · have := h4 j (Nat.zero_le _) (by omega) hq
          omega
      · rw [if_neg q]
        exact keep (fun z => absurd z q)
theorem isB_D {Q : Nat → Bool} {c : Nat → Nat} {i N : Nat} (hi : i < N) : ∀ {o : Option Nat}, isB Q c (i + 1) N o → isB Q c i N (stD Q c i o) := by
  intro o h
  cases o with
  | none =>
    show isB Q c i N (if Q i = true then some i else none)
    by_cases q : Q i = true
    · rw [if_pos q]
      refine ⟨Nat.le_refl _, hi, q, fun j h1 hj hq => ?_⟩
      by_cases z : j = i
      · subst z; exact Or.inr ⟨rfl, Nat.le_refl _⟩
      · have := h j (by omega) hj
        rw [hq] at this; cases this
    · rw [if_neg q]
      intro j h1 hj
      by_cases z : j = i
      · subst z; simpa using q
      · exact h j (by omega) hj
  | some k =>
    obtain ⟨h1, h2, h3, h4⟩ := h
    have keep : (Q i = true → c k < c i) → isB Q c i N (some k) := fun w => ⟨by omega, h2, h3, fun j hj0 hj hq => by
      by_cases z : j = i
      · subst z
        have := w hq
        omega
      · exact h4 j (by omega) hj hq⟩
    show isB Q c i N (if c k < c i then some k else if Q i = true then some i else some k)
    by_cases w : c k < c i
    · rw [if_pos w]
      exact keep (fun _ => w)
    · rw [if_neg w]
      by_cases q : Q i = true
      · rw [if_pos q]
        refine ⟨Nat.le_refl _, hi, q, fun j hj0 hj hq => ?_⟩
        by_cases z : j = i
        · subst z; exact Or.inr ⟨rfl, Nat.le_refl _⟩
        · have := h4 j (by omega) hj hq
          omega
      · rw [if_neg q]
        exact keep (fun z => absurd z q)
def eO : Option Nat → Int32
  | none => -1
  | some k => nI k
def eC (c : Nat → Nat) (B : Nat) : Option Nat → Int32
  | none => nI B
  | some k => nI (c k)
theorem isB_lt {Q : Nat → Bool} {c : Nat → Nat} {lo hi k : Nat} (h : isB Q c lo hi (some k)) : k < hi := h.2.1
theorem ev_best {f g : mt_St → Option (Int32 × mt_St)} {σ σ1 : mt_St} {y : Nat} {o : Option Nat} (h : RR σ y) (q1 : quiet σ σ1) (ho : ∀ k, o = some k → k < 2 ^ 31) (hf : (∀ k, o = some k → f σ = some (nI k, σ1)) ∧ (o = none → f σ = some (-1000001 - nI 3, x_fs σ1 3))) (hg : ∀ s : mt_St, (s = σ1 ∨ s = x_fs σ1 3) → ∃ s', quiet s s' ∧ g s = mt_call (fX6_orNone 5000 s' (eO o)) fun r s => some (r, s)) : EV f g σ y := by
  cases o with
  | none =>
    obtain ⟨s', q2, eg⟩ := hg (x_fs σ1 3) (Or.inr rfl)
    refine ev_findq (w := 3) (by decide) h q1 (hf.2 rfl) q2 ?_
    rw [eg, show eO none = -1 from rfl]
    unfold fX6_orNone bX6_orNone_14
    rw [if_neg (by decide), m_find3, pu_call, pu_call]
  | some k =>
    obtain ⟨s', q2, eg⟩ := hg σ1 (Or.inl rfl)
    have hk := ho k rfl
    refine EV.quiet (r := nI k) h (hf.1 k rfl) (σ2 := s') ?_ q1 q2
    rw [eg, show eO (some k) = nI k from rfl]
    unfold fX6_orNone bX6_orNone_14
    rw [if_pos (show (0 : Int32) ≤ nI k from nI_le (a := 0) (by omega) hk), pu_call]
