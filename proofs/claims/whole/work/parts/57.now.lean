/-! how many pairs are at war -/
def wcnt (a : AW) : Int32 := s15 (warI a 1) (warI a 2) (warI a 3) (warI a 4) (warI a 5) (warI a 8) (warI a 9) (warI a 10) (warI a 11) (warI a 15) (warI a 16) (warI a 17) (warI a 22) (warI a 23) (warI a 29)
def pS (a : AW) (p : Nat) : Nat → Nat → Int32 → Int32
  | 0, _, x => x
  | d + 1, i, x => pS a p d (i + 1) (x + bN (warI a (prI p i)))
def oS (a : AW) : Nat → Nat → Int32 → Int32
  | 0, _, x => x
  | d + 1, p, x => oS a d (p + 1) (pS a p (5 - p) (p + 1) x)
theorem oS_w (a : AW) : oS a 6 0 0 = wcnt a := rfl
theorem m_pinner {y p : Nat} {a : AW} {σ : mt_St} {k4 : Int32 → Int32 → Option Int32} (hw : wfA a y) (h : SM a (σ 57)) (hp : p < 6) : ∀ (d i fuel : Nat) (x : Int32), 6 = i + d → d < fuel → bX6_pairsAtWar_14 5000 σ k4 fuel x (nI p) (nI i) = k4 (pS a p d i x) (nI (p + 1)) := by
  intro d
  induction d with
  | zero =>
    intro i fuel x hd hf
    obtain ⟨fuel, rfl⟩ : ∃ q, fuel = q + 1 := ⟨fuel - 1, by omega⟩
    have : i = 6 := by omega
    subst this
    unfold bX6_pairsAtWar_14 pS
    rw [if_pos (by decide), nI_1]
  | succ d ih =>
    intro i fuel x hd hf
    obtain ⟨fuel, rfl⟩ : ∃ q, fuel = q + 1 := ⟨fuel - 1, by omega⟩
    have := ih (i + 1) fuel (x + bN (warI a (prI p i))) (by omega) (by omega)
    unfold bX6_pairsAtWar_14 bX6_pairsAtWar_35 pS
    rw [if_neg (show ¬ (6 : Int32) ≤ nI i from nI_ge (b := 6) (by omega) (by decide)), m_isWar hw h hp (show i < 6 by omega), pu_ask, nI_1]
    cases w : warI a (prI p i)
    · rw [w] at this
      rw [bN_f, if_pos rfl]; exact this
    · rw [w] at this
      rw [bN_t, if_neg i10']; exact this
theorem m_pairs {y : Nat} {a : AW} {σ : mt_St} (hw : wfA a y) (h : SM a (σ 57)) : fX6_pairsAtWar 5000 σ = some (wcnt a) := by
  have lp : ∀ (d p fuel : Nat) (x : Int32), 6 = p + d → d < fuel → bX6_pairsAtWar_4 5000 σ fuel x (nI p) = some (oS a d p x) := by
    intro d
    induction d with
    | zero =>
      intro p fuel x hd hf
      obtain ⟨fuel, rfl⟩ : ∃ q, fuel = q + 1 := ⟨fuel - 1, by omega⟩
      have : p = 6 := by omega
      subst this
      unfold bX6_pairsAtWar_4 oS
      rw [if_pos (by decide)]
    | succ d ih =>
      intro p fuel x hd hf
      obtain ⟨fuel, rfl⟩ : ∃ q, fuel = q + 1 := ⟨fuel - 1, by omega⟩
      unfold bX6_pairsAtWar_4 oS
      rw [if_neg (show ¬ (6 : Int32) ≤ nI p from nI_ge (b := 6) (by omega) (by decide)), nI_1, m_pinner hw h (show p < 6 by omega) (5 - p) (p + 1) 5000 x (by omega) (by omega)]
      exact ih (p + 1) fuel _ (by omega) (by omega)
  unfold fX6_pairsAtWar
  rw [← oS_w]
  exact lp 6 0 5000 0 (by omega) (by omega)
theorem bt_ob (b : Bool) {j i : Nat} (hj : j < 36) (hi : i < 64) : bt (ob b j) i = (b && decide (i = j)) := by
  unfold ob
  cases b
  · rw [if_neg (by decide), bt_0]; rfl
  · rw [if_pos rfl, bt_pb j hj i hi]; rfl
theorem pr_in0 : ∀ p : Nat, p < 6 → ∀ q : Nat, q < 6 → p ≠ q → prI p q ∈ [1, 2, 3, 4, 5, 8, 9, 10, 11, 15, 16, 17, 22, 23, 29] := by decide +kernel
theorem pr_in {p q : Nat} (hp : p < 6) (hq : q < 6) (h : p ≠ q) : prI p q = 1 ∨ prI p q = 2 ∨ prI p q = 3 ∨ prI p q = 4 ∨ prI p q = 5 ∨ prI p q = 8 ∨ prI p q = 9 ∨ prI p q = 10 ∨ prI p q = 11 ∨ prI p q = 15 ∨ prI p q = 16 ∨ prI p q = 17 ∨ prI p q = 22 ∨ prI p q = 23 ∨ prI p q = 29 := by
  have := pr_in0 p hp q hq h
  simp only [List.mem_cons, List.not_mem_nil, or_false] at this
  exact this
theorem any_in {a : AW} {y i : Nat} (hw : wfA a y) : ∀ t, t ≤ nA a → anyI a i t = true → i = 1 ∨ i = 2 ∨ i = 3 ∨ i = 4 ∨ i = 5 ∨ i = 8 ∨ i = 9 ∨ i = 10 ∨ i = 11 ∨ i = 15 ∨ i = 16 ∨ i = 17 ∨ i = 22 ∨ i = 23 ∨ i = 29 := by
  intro t
  induction t with
  | zero => intro _ h; cases h
  | succ t ih =>
    intro ht h
    have e : anyI a i (t + 1) = (anyI a i t || decide (ix a t = i)) := rfl
    rw [e, Bool.or_eq_true] at h
    rcases h with h | h
    · exact ih (by omega) h
    · have h := of_decide_eq_true h
      obtain ⟨p, q, hp, hq, hpq, -, -, eix⟩ := wf_12 hw (show t < nA a by omega)
      rw [← h, eix]
      exact pr_in hp hq hpq
theorem x_m15 {a : AW} {y : Nat} {x : Int64} (hw : wfA a y) (hx : ∀ i, i < 64 → bt x i = warI a i) : x = m15 (warI a 1) (warI a 2) (warI a 3) (warI a 4) (warI a 5) (warI a 8) (warI a 9) (warI a 10) (warI a 11) (warI a 15) (warI a 16) (warI a 17) (warI a 22) (warI a 23) (warI a 29) := by
  apply bt_ext
  intro i hi
  rw [hx i hi]
  unfold m15
  simp only [bt_or, bt_ob _ (show 1 < 36 by decide) hi, bt_ob _ (show 2 < 36 by decide) hi, bt_ob _ (show 3 < 36 by decide) hi, bt_ob _ (show 4 < 36 by decide) hi, bt_ob _ (show 5 < 36 by decide) hi, bt_ob _ (show 8 < 36 by decide) hi, bt_ob _ (show 9 < 36 by decide) hi, bt_ob _ (show 10 < 36 by decide) hi, bt_ob _ (show 11 < 36 by decide) hi, bt_ob _ (show 15 < 36 by decide) hi, bt_ob _ (show 16 < 36 by decide) hi, bt_ob _ (show 17 < 36 by decide) hi, bt_ob _ (show 22 < 36 by decide) hi, bt_ob _ (show 23 < 36 by decide) hi, bt_ob _ (show 29 < 36 by decide) hi]
  by_cases c : i = 1 ∨ i = 2 ∨ i = 3 ∨ i = 4 ∨ i = 5 ∨ i = 8 ∨ i = 9 ∨ i = 10 ∨ i = 11 ∨ i = 15 ∨ i = 16 ∨ i = 17 ∨ i = 22 ∨ i = 23 ∨ i = 29
  · rcases c with rfl | rfl | rfl | rfl | rfl | rfl | rfl | rfl | rfl | rfl | rfl | rfl | rfl | rfl | rfl <;> simp
  · have : warI a i = false := by
      unfold warI
      cases q : anyI a i (nA a)
      · rfl
      · exact absurd (any_in hw (nA a) (Nat.le_refl _) q) c
    rw [this]
    simp only [not_or] at c
    simp [c]
theorem x_cnt {a : AW} {y : Nat} {x : Int64} (hw : wfA a y) (hx : ∀ i, i < 64 → bt x i = warI a i) : fJ13_bitCount_95d88 5000 x = some (wcnt a) := by
  rw [x_m15 hw hx]
  exact bc15 _ _ _ _ _ _ _ _ _ _ _ _ _ _ _
theorem bN_n (b : Bool) : bN b = nI b.toNat := by cases b <;> rfl
theorem wcnt_n (a : AW) : wcnt a = nI (0 + (warI a 1).toNat + (warI a 2).toNat + (warI a 3).toNat + (warI a 4).toNat + (warI a 5).toNat + (warI a 8).toNat + (warI a 9).toNat + (warI a 10).toNat + (warI a 11).toNat + (warI a 15).toNat + (warI a 16).toNat + (warI a 17).toNat + (warI a 22).toNat + (warI a 23).toNat + (warI a 29).toNat) := by
  unfold wcnt s15
  simp only [bN_n, show (0 : Int32) = nI 0 from rfl, nI_add]
theorem wcnt_0 {a : AW} {y : Nat} {x : Int64} (hw : wfA a y) (hx : ∀ i, i < 64 → bt x i = warI a i) : x = 0 ↔ wcnt a ≤ 0 := by
  have tb : ∀ b : Bool, b.toNat ≤ 1 := Bool.toNat_le
  have q1 := tb (warI a 1)
  have q2 := tb (warI a 2)
  have q3 := tb (warI a 3)
  have q4 := tb (warI a 4)
  have q5 := tb (warI a 5)
  have q8 := tb (warI a 8)
  have q9 := tb (warI a 9)
  have q10 := tb (warI a 10)
  have q11 := tb (warI a 11)
  have q15 := tb (warI a 15)
  have q16 := tb (warI a 16)
  have q17 := tb (warI a 17)
  have q22 := tb (warI a 22)
  have q23 := tb (warI a 23)
  have q29 := tb (warI a 29)
  rw [wcnt_n, Int32.le_iff_toInt_le, nI_toInt (by omega), show (0 : Int32).toInt = 0 from rfl]
  constructor
  · intro e
    have z : ∀ i, i < 64 → warI a i = false := fun i hi => by rw [← hx i hi, e]; exact bt_0 i
    rw [z 1 (by decide), z 2 (by decide), z 3 (by decide), z 4 (by decide), z 5 (by decide), z 8 (by decide), z 9 (by decide), z 10 (by decide), z 11 (by decide), z 15 (by decide), z 16 (by decide), z 17 (by decide), z 22 (by decide), z 23 (by decide), z 29 (by decide)]
    decide
  · intro e
    apply bt_ext
    intro i hi
    rw [hx i hi, bt_0]
    cases c : warI a i
    · rfl
    · have ha : anyI a i (nA a) = true := by
        unfold warI at c
        rw [Bool.and_eq_true] at c
        exact c.1
      have c1 : (warI a i).toNat = 1 := by rw [c]; rfl
      rcases any_in hw (nA a) (Nat.le_refl _) ha with rfl | rfl | rfl | rfl | rfl | rfl | rfl | rfl | rfl | rfl | rfl | rfl | rfl | rfl | rfl <;> omega
theorem e_now {σ : mt_St} {y : Nat} (h : RR σ y) (v : Int32) : EV (fun s => fX5_now 5000 s v) (fun s => fX6_now 5000 s v) σ y := by
  obtain ⟨⟨a, ha⟩, -⟩ := id h
  by_cases c : ∃ k, k < 8 ∧ v = nI k
  · obtain ⟨k, hk, rfl⟩ := c
    rcases (show k = 0 ∨ k = 1 ∨ k = 2 ∨ k = 3 ∨ k = 4 ∨ k = 5 ∨ k = 6 ∨ k = 7 by omega) with rfl | rfl | rfl | rfl | rfl | rfl | rfl | rfl
    · refine EV.same (r := a 0 4) h ?_ ?_
      · show fX5_now 5000 σ (nI 0) = _
        unfold fX5_now
        rw [if_pos (show nI 0 = 0 by decide)]
        rw [ha.2.1.1.2.2.2.1]
      · show fX6_now 5000 σ (nI 0) = _
        unfold fX6_now
        rw [if_pos (show nI 0 = 0 by decide)]
        rw [ha.2.2.1.2.2.2.1]
    · refine EV.same (r := frcF a (nA a)) h ?_ ?_
      · show fX5_now 5000 σ (nI 1) = _
        unfold fX5_now
        rw [if_neg (show ¬ nI 1 = 0 by decide), if_pos (show nI 1 = 1 by decide)]
        rw [x_inForce ha.1 ha.2.1, pu_ask]
      · show fX6_now 5000 σ (nI 1) = _
        unfold fX6_now
        rw [if_neg (show ¬ nI 1 = 0 by decide), if_pos (show nI 1 = 1 by decide)]
        rw [m_inForce ha.1 ha.2.2, pu_ask]
    · refine EV.same (r := a 0 3) h ?_ ?_
      · show fX5_now 5000 σ (nI 2) = _
        unfold fX5_now
        rw [if_neg (show ¬ nI 2 = 0 by decide), if_neg (show ¬ nI 2 = 1 by decide), if_pos (show nI 2 = 2 by decide)]
        rw [ha.2.1.1.2.2.1]
      · show fX6_now 5000 σ (nI 2) = _
        unfold fX6_now
        rw [if_neg (show ¬ nI 2 = 0 by decide), if_neg (show ¬ nI 2 = 1 by decide), if_pos (show nI 2 = 2 by decide)]
        rw [ha.2.2.1.2.2.1]
    · refine EV.same (r := sumF (fun t => a (4 + t) 7) (nA a)) h ?_ ?_
      · show fX5_now 5000 σ (nI 3) = _
        unfold fX5_now
        rw [if_neg (show ¬ nI 3 = 0 by decide), if_neg (show ¬ nI 3 = 1 by decide), if_neg (show ¬ nI 3 = 2 by decide), if_pos (show nI 3 = 3 by decide)]
        rw [x_allBroken ha.1 ha.2.1, pu_ask]
      · show fX6_now 5000 σ (nI 3) = _
        unfold fX6_now
        rw [if_neg (show ¬ nI 3 = 0 by decide), if_neg (show ¬ nI 3 = 1 by decide), if_neg (show ¬ nI 3 = 2 by decide), if_pos (show nI 3 = 3 by decide)]
        rw [m_sum7 ha.1 ha.2.2, pu_ask]
    · refine EV.same (r := wcnt a) h ?_ ?_
      · show fX5_now 5000 σ (nI 4) = _
        unfold fX5_now
        rw [if_neg (show ¬ nI 4 = 0 by decide), if_neg (show ¬ nI 4 = 1 by decide), if_neg (show ¬ nI 4 = 2 by decide), if_neg (show ¬ nI 4 = 3 by decide), if_pos (show nI 4 = 4 by decide)]
        obtain ⟨x, e1, e2⟩ := x_pairs ha.1 ha.2.1
        rw [e1, pu_ask, x_cnt ha.1 e2, pu_ask]
      · show fX6_now 5000 σ (nI 4) = _
        unfold fX6_now
        rw [if_neg (show ¬ nI 4 = 0 by decide), if_neg (show ¬ nI 4 = 1 by decide), if_neg (show ¬ nI 4 = 2 by decide), if_neg (show ¬ nI 4 = 3 by decide), if_pos (show nI 4 = 4 by decide)]
        rw [m_pairs ha.1 ha.2.2, pu_ask]
    · refine EV.same (r := brkB a (a 0 1) (nA a)) h ?_ ?_
      · show fX5_now 5000 σ (nI 5) = _
        unfold fX5_now
        rw [if_neg (show ¬ nI 5 = 0 by decide), if_neg (show ¬ nI 5 = 1 by decide), if_neg (show ¬ nI 5 = 2 by decide), if_neg (show ¬ nI 5 = 3 by decide), if_neg (show ¬ nI 5 = 4 by decide), if_pos (show nI 5 = 5 by decide)]
        rw [x_breaking ha.1 ha.2.1, pu_ask]
      · show fX6_now 5000 σ (nI 5) = _
        unfold fX6_now
        rw [if_neg (show ¬ nI 5 = 0 by decide), if_neg (show ¬ nI 5 = 1 by decide), if_neg (show ¬ nI 5 = 2 by decide), if_neg (show ¬ nI 5 = 3 by decide), if_neg (show ¬ nI 5 = 4 by decide), if_pos (show nI 5 = 5 by decide)]
        rw [m_breaking ha.1 ha.2.2, pu_ask]
    · refine EV.same (r := mrkF a (nA a)) h ?_ ?_
      · show fX5_now 5000 σ (nI 6) = _
        unfold fX5_now
        rw [if_neg (show ¬ nI 6 = 0 by decide), if_neg (show ¬ nI 6 = 1 by decide), if_neg (show ¬ nI 6 = 2 by decide), if_neg (show ¬ nI 6 = 3 by decide), if_neg (show ¬ nI 6 = 4 by decide), if_neg (show ¬ nI 6 = 5 by decide), if_pos (show nI 6 = 6 by decide)]
        rw [x_marks ha.1 ha.2.1, pu_ask]
      · show fX6_now 5000 σ (nI 6) = _
        unfold fX6_now
        rw [if_neg (show ¬ nI 6 = 0 by decide), if_neg (show ¬ nI 6 = 1 by decide), if_neg (show ¬ nI 6 = 2 by decide), if_neg (show ¬ nI 6 = 3 by decide), if_neg (show ¬ nI 6 = 4 by decide), if_neg (show ¬ nI 6 = 5 by decide), if_pos (show nI 6 = 6 by decide)]
        rw [m_marks ha.1 ha.2.2, pu_ask]
    · refine EV.same (r := lng a (nA a)) h ?_ ?_
      · show fX5_now 5000 σ (nI 7) = _
        unfold fX5_now
        rw [if_neg (show ¬ nI 7 = 0 by decide), if_neg (show ¬ nI 7 = 1 by decide), if_neg (show ¬ nI 7 = 2 by decide), if_neg (show ¬ nI 7 = 3 by decide), if_neg (show ¬ nI 7 = 4 by decide), if_neg (show ¬ nI 7 = 5 by decide), if_neg (show ¬ nI 7 = 6 by decide), if_pos (show nI 7 = 7 by decide)]
        rw [x_longest ha.1 ha.2.1, pu_ask]
      · show fX6_now 5000 σ (nI 7) = _
        unfold fX6_now
        rw [if_neg (show ¬ nI 7 = 0 by decide), if_neg (show ¬ nI 7 = 1 by decide), if_neg (show ¬ nI 7 = 2 by decide), if_neg (show ¬ nI 7 = 3 by decide), if_neg (show ¬ nI 7 = 4 by decide), if_neg (show ¬ nI 7 = 5 by decide), if_neg (show ¬ nI 7 = 6 by decide), if_pos (show nI 7 = 7 by decide)]
        rw [m_longest ha.1 ha.2.2, pu_ask]
  · have hn : ∀ k, k < 8 → ¬ v = nI k := fun k hk e => c ⟨k, hk, e⟩
    refine EV.find (w := 0) (by decide) h ?_ ?_
    · show fX5_now 5000 σ v = _
      unfold fX5_now
      rw [if_neg (show ¬ v = 0 from hn 0 (by decide)), if_neg (show ¬ v = 1 from hn 1 (by decide)), if_neg (show ¬ v = 2 from hn 2 (by decide)), if_neg (show ¬ v = 3 from hn 3 (by decide)), if_neg (show ¬ v = 4 from hn 4 (by decide)), if_neg (show ¬ v = 5 from hn 5 (by decide)), if_neg (show ¬ v = 6 from hn 6 (by decide)), if_neg (show ¬ v = 7 from hn 7 (by decide)), x_find0, pu_call]
    · show fX6_now 5000 _ v = _
      unfold fX6_now
      rw [if_neg (show ¬ v = 0 from hn 0 (by decide)), if_neg (show ¬ v = 1 from hn 1 (by decide)), if_neg (show ¬ v = 2 from hn 2 (by decide)), if_neg (show ¬ v = 3 from hn 3 (by decide)), if_neg (show ¬ v = 4 from hn 4 (by decide)), if_neg (show ¬ v = 5 from hn 5 (by decide)), if_neg (show ¬ v = 6 from hn 6 (by decide)), if_neg (show ¬ v = 7 from hn 7 (by decide)), m_find0, pu_call]
