theorem lg_sum {p q n : Nat} (hp : p < 2 ^ 31) (hq : q < 2 ^ 31) (hn : n ≤ 40) : lg_cmp (Int32.toInt64 (nI p) + Int32.toInt64 (nI q)) (Int32.toInt64 (nI n)) = if p + q ≤ n then (if p + q = n then 0 else -1) else 1 := by
  have e1 : (Int32.toInt64 (nI p) + Int32.toInt64 (nI q)).toInt = ((p + q : Nat) : Int) := by
    rw [Int64.toInt_add, Int32.toInt_toInt64, Int32.toInt_toInt64, nI_toInt hp, nI_toInt hq, Int.bmod_eq_of_le (by omega) (by omega)]
    omega
  have e2 : (Int32.toInt64 (nI n)).toInt = (n : Int) := by rw [Int32.toInt_toInt64, nI_toInt (by omega)]
  unfold lg_cmp
  have g : (Int32.toInt64 (nI p) + Int32.toInt64 (nI q) > Int32.toInt64 (nI n)) ↔ ¬ p + q ≤ n := by
    rw [gt_iff_lt, Int64.lt_iff_toInt_lt, e1, e2]; omega
  have g2 : (Int32.toInt64 (nI p) + Int32.toInt64 (nI q) = Int32.toInt64 (nI n)) ↔ p + q = n := by
    rw [← Int64.toInt_inj, e1, e2]; omega
  by_cases h : p + q ≤ n
  · rw [if_neg (fun q => g.mp q h), if_pos h]
    by_cases h2 : p + q = n
    · rw [if_pos (g2.mpr h2), if_pos h2]
    · rw [if_neg (fun q => h2 (g2.mp q)), if_neg h2]
  · rw [if_pos (g.mpr h), if_neg h]
theorem x_rng1 {fu c : Nat} {σ : mt_St} {v w : Int32} (h : v < 0 ∨ w < 0) : fX1_hasRange fu σ c v w = some 0 := by
  unfold fX1_hasRange bX1_hasRange_30 bX1_hasRange_31
  by_cases p : v < 0
  · rw [if_pos p]; rfl
  · rw [if_neg p, if_pos (by rcases h with q | q; exact absurd q p; exact q)]; rfl
theorem x_rng {fu c p q n : Nat} {σ : mt_St} (hp : p < 2 ^ 31) (hq : q < 2 ^ 31) (hn : n ≤ 40) (e : σ c 1 = nI n) : fX1_hasRange fu σ c (nI p) (nI q) = some (bN (decide (p + q ≤ n))) := by
  unfold fX1_hasRange bX1_hasRange_30 bX1_hasRange_31
  rw [if_neg (nI_pos hp), if_neg (nI_pos hq), e]
  by_cases h1 : n < q
  · rw [if_pos (nI_lt h1 hq), show decide (p + q ≤ n) = false from by simp; omega]; rfl
  · rw [if_neg (nI_nlt (by omega) (by omega)), pk_sub (by omega)]
    by_cases h2 : n - q < p
    · rw [if_pos (nI_lt h2 hp), show decide (p + q ≤ n) = false from by simp; omega]; rfl
    · rw [if_neg (nI_nlt (by omega) (by omega)), show decide (p + q ≤ n) = true from by simp; omega]; rfl
theorem m_i43 (s p k : Nat) : (40 : Int32) * nI s + nI p + nI k = nI (40 * s + p + k) := by
  rw [m_i40, nI_add]
theorem m_cpB {s3 p3 q : Nat} (hq : q ≤ 40) (hb : 40 * s3 + p3 + q ≤ 160) : ∀ (d i fuel : Nat) (σ : mt_St), q = i + d → d < fuel → ∃ r, bX6_copy_165 5000 fuel σ (nI s3) (nI p3) (nI q) (nI i) = some (nI q, mt_row σ 66 r) ∧ ∀ k, r k = if 40 * s3 + p3 + i ≤ k ∧ k < 40 * s3 + p3 + q then σ 67 (k - (40 * s3 + p3)) else σ 66 k := by
  intro d
  induction d with
  | zero =>
    intro i fuel σ hd hf
    obtain ⟨fuel, rfl⟩ : ∃ q, fuel = q + 1 := ⟨fuel - 1, by omega⟩
    have : i = q := by omega
    subst this
    unfold bX6_copy_165
    rw [if_pos (nI_le (Nat.le_refl _) (by omega))]
    exact ⟨σ 66, by rw [mt_row_same], fun k => by rw [if_neg (by omega)]⟩
  | succ d ih =>
    intro i fuel σ hd hf
    obtain ⟨fuel, rfl⟩ : ∃ q, fuel = q + 1 := ⟨fuel - 1, by omega⟩
    unfold bX6_copy_165
    rw [if_neg (nI_ge (by omega) (by omega)), m_i43, pu_chkP (pu_in (by omega) (by decide)), pu_chkP (pu_in (by omega) (by decide)), pu_bnd, nI_clamp (by omega), nI_clamp (by omega), nI_1]
    obtain ⟨r, e1, e2⟩ := ih (i + 1) fuel (mt_up σ 66 (40 * s3 + p3 + i) (σ 67 i)) (by omega) (by omega)
    refine ⟨r, by rw [e1, pu_up, pu_row_row], fun k => ?_⟩
    rw [e2 k, pu_up, mt_row_s, mt_row_n (by decide)]
    by_cases c1 : k = 40 * s3 + p3 + i
    · subst c1
      rw [if_neg (by omega), pu_upd_s, if_pos (by omega)]
      congr 1; omega
    · rw [pu_upd_n c1]
      by_cases c2 : 40 * s3 + p3 + (i + 1) ≤ k ∧ k < 40 * s3 + p3 + q
      · rw [if_pos c2, if_pos (by omega)]
      · rw [if_neg c2, if_neg (by omega)]
theorem m_cpA {s1 p1 s3 p3 q : Nat} (hq : q ≤ 40) (ha : 40 * s1 + p1 + q ≤ 160) : ∀ (d i fuel : Nat) (σ : mt_St), q = i + d → d < fuel → ∃ f, bX6_copy_128 5000 fuel σ (nI s1) (nI p1) (nI s3) (nI p3) (nI q) (nI i) = bX6_copy_165 5000 5000 (mt_row σ 67 f) (nI s3) (nI p3) (nI q) (nI 0) ∧ ∀ k, k < q → f k = if i ≤ k then σ 66 (40 * s1 + p1 + k) else σ 67 k := by
  intro d
  induction d with
  | zero =>
    intro i fuel σ hd hf
    obtain ⟨fuel, rfl⟩ : ∃ q, fuel = q + 1 := ⟨fuel - 1, by omega⟩
    have : i = q := by omega
    subst this
    unfold bX6_copy_128
    rw [if_pos (nI_le (Nat.le_refl _) (by omega))]
    exact ⟨σ 67, by rw [mt_row_same]; rfl, fun k hk => by rw [if_neg (by omega)]⟩
  | succ d ih =>
    intro i fuel σ hd hf
    obtain ⟨fuel, rfl⟩ : ∃ q, fuel = q + 1 := ⟨fuel - 1, by omega⟩
    unfold bX6_copy_128
    rw [if_neg (nI_ge (by omega) (by omega)), m_i43, pu_chkP (pu_in (by omega) (by decide)), pu_chkP (pu_in (by omega) (by decide)), pu_bnd, nI_clamp (by omega), nI_clamp (by omega), nI_1]
    obtain ⟨r, e1, e2⟩ := ih (i + 1) fuel (mt_up σ 67 i (σ 66 (40 * s1 + p1 + i))) (by omega) (by omega)
    refine ⟨r, by rw [e1, pu_up, pu_row_row], fun k hk => ?_⟩
    rw [e2 k hk, pu_up, mt_row_s, mt_row_n (by decide)]
    by_cases c1 : k = i
    · subst c1
      rw [if_neg (by omega), pu_upd_s, if_pos (by omega)]
    · rw [pu_upd_n c1]
      by_cases c2 : i + 1 ≤ k
      · rw [if_pos c2, if_pos (by omega)]
      · rw [if_neg c2, if_neg (by omega)]
theorem cpok {p1 p3 q : Nat} (h1 : p1 + q ≤ 40) (h3 : p3 + q ≤ 40) : mt_cpok (nI p1) (nI p3) (nI q) 40 40 = true := by
  unfold mt_cpok
  rw [nI_toInt (by omega), nI_toInt (by omega), nI_toInt (by omega)]
  simp only [Bool.and_eq_true, decide_eq_true_eq]
  omega
theorem RS.cp {σ σ' : mt_St} {s1 p1 s3 p3 q : Nat} {f r : Nat → Int32} (h : RS σ) (h1 : s1 < 4) (h3 : s3 < 4) (hp1 : p1 + q ≤ 40) (hp3 : p3 + q ≤ 40) (hf : ∀ k, k < q → f k = σ 66 (40 * s1 + p1 + k)) (hr : ∀ k, r k = if 40 * s3 + p3 ≤ k ∧ k < 40 * s3 + p3 + q then f (k - (40 * s3 + p3)) else σ 66 k) (e66 : σ' 66 = r) (e51 : σ' (51 + s3) = va_cpy (σ (51 + s1)) (σ (51 + s3)) p1 p3 q) (e : ∀ c, (47 ≤ c ∧ c < 55 ∨ c = 64 ∨ c = 65) → c ≠ 51 + s3 → σ' c = σ c) : RS σ' := by
  intro t ht
  obtain ⟨g1, g2, g3, g4, g5⟩ := h t ht
  rw [e (47 + t) (by omega) (by omega), e 64 (by omega) (by omega), e 65 (by omega) (by omega), e66]
  refine ⟨g1, g2, fun k hk => ?_, g4, g5⟩
  rw [hr]
  by_cases c : t = s3
  · subst c
    rw [e51]
    show _ = if p3 ≤ k ∧ k < p3 + q then σ (51 + s1) (p1 + (k - p3)) else σ (51 + t) k
    by_cases c2 : p3 ≤ k ∧ k < p3 + q
    · rw [if_pos (by omega), if_pos c2, hf _ (by omega), ← (h s1 h1).2.2.1 _ (by omega)]
      congr 1; omega
    · rw [if_neg (by omega), if_neg c2]; exact g3 k hk
  · rw [if_neg (by omega), e (51 + t) (by omega) (by omega)]; exact g3 k hk
theorem e_copy {σ : mt_St} {y : Nat} (h : RR σ y) (u1 v1 u3 v3 w : Int32) : EV (fun s => fX5_copy 5000 s u1 v1 u3 v3 w) (fun s => fX6_copy 5000 s u1 v1 u3 v3 w) σ y := by
  cases h1 : okR u1 3
  · refine EV.find (w := 0) (by decide) h ?_ ?_
    · simp only [fX5_copy, bX5_copy_16, x_isSheet, h1, x_find0, pu_ask, pu_call, pu_bnd, pu_chk, pu_b0, pu_b1, bN_t, bN_f, bN_c, i10, i00, if_true, if_false]
    · simp only [fX6_copy, bX6_copy_14, m_isSheet, h1, m_find0, pu_ask, pu_call, pu_bnd, pu_chk, pu_b0, pu_b1, bN_t, bN_f, bN_c, i10, i00, if_true, if_false]
  cases h2 : okR u3 3
  · refine EV.find (w := 0) (by decide) h ?_ ?_
    · simp only [fX5_copy, bX5_copy_16, x_isSheet, h1, h2, x_find0, pu_ask, pu_call, pu_bnd, pu_chk, pu_b0, pu_b1, bN_t, bN_f, bN_c, i10, i00, if_true, if_false]
    · simp only [fX6_copy, bX6_copy_14, m_isSheet, h1, h2, m_find0, pu_ask, pu_call, pu_bnd, pu_chk, pu_b0, pu_b1, bN_t, bN_f, bN_c, i10, i00, if_true, if_false]
  obtain ⟨s1, hs1, rfl⟩ := okR_nI (m := 3) (by decide) h1
  obtain ⟨s3, hs3, rfl⟩ := okR_nI (m := 3) (by decide) h2
  obtain ⟨a1, a2, a3, a4, n1, hn1, en1⟩ := h.2.2.2.1 s1 (by omega)
  obtain ⟨b1, b2, b3, b4, n3, hn3, en3⟩ := h.2.2.2.1 s3 (by omega)
  have e47 : 46 + 1 + s1 = 47 + s1 := by omega
  have e473 : 46 + 1 + s3 = 47 + s3 := by omega
  have p1 := pu_in (show s1 < 4 by omega) (by decide)
  have c1 := nI_clamp (show s1 < 2 ^ 31 by omega)
  have p3 := pu_in (show s3 < 4 by omega) (by decide)
  have c3 := nI_clamp (show s3 < 2 ^ 31 by omega)
  by_cases z1 : σ (47 + s1) 0 = 0
  · refine EV.find (w := 5) (by decide) h ?_ ?_
    · simp only [fX5_copy, bX5_copy_54, x_isSheet, h1, h2, p1, c1, p3, c3, e47, x_missing, z1, decide_true, x_find5, pu_ask, pu_call, pu_bnd, pu_chk, pu_b0, pu_b1, bN_t, bN_f, bN_c, i10, i00, if_true, if_false]
    · rw [z1] at a1
      simp only [fX6_copy, bX6_copy_39, m_isSheet, h1, h2, p1, c1, x_fs_n (show 64 ≠ 55 by decide), a1, m_find5, pu_ask, pu_call, pu_bnd, pu_chk, pu_b0, pu_b1, bN_t, bN_f, bN_c, i10, i00, if_true, if_false]
  have m1 : ¬ σ 64 s1 = 0 := by rw [a1]; exact z1
  by_cases z3 : σ (47 + s3) 0 = 0
  · refine EV.find (w := 5) (by decide) h ?_ ?_
    · simp only [fX5_copy, bX5_copy_54, x_isSheet, h1, h2, p1, c1, p3, c3, e47, e473, x_missing, z1, z3, decide_false, decide_true, x_find5, pu_ask, pu_call, pu_bnd, pu_chk, pu_b0, pu_b1, bN_t, bN_f, bN_c, i10, i00, if_true, if_false]
    · rw [z3] at b1
      simp only [fX6_copy, bX6_copy_39, m_isSheet, h1, h2, p1, c1, p3, c3, x_fs_n (show 64 ≠ 55 by decide), m1, b1, m_find5, pu_ask, pu_call, pu_bnd, pu_chk, pu_b0, pu_b1, bN_t, bN_f, bN_c, i10, i00, if_true, if_false]
  have m3 : ¬ σ 64 s3 = 0 := by rw [b1]; exact z3
  by_cases eq : σ (47 + s1) 0 = σ (47 + s3) 0
  rotate_left
  · have mq : ¬ σ 64 s1 = σ 64 s3 := by rw [a1, b1]; exact eq
    refine EV.find (w := 2) (by decide) h ?_ ?_
    · simp only [fX5_copy, bX5_copy_54, x_isSheet, h1, h2, p1, c1, p3, c3, e47, e473, x_missing, z1, z3, eq, decide_false, x_find2, pu_ask, pu_call, pu_bnd, pu_chk, pu_b0, pu_b1, bN_t, bN_f, bN_c, i10, i00, if_true, if_false]
    · simp only [fX6_copy, bX6_copy_39, m_isSheet, h1, h2, p1, c1, p3, c3, x_fs_n (show 64 ≠ 55 by decide), m1, m3, mq, m_find2, pu_ask, pu_call, pu_bnd, pu_chk, pu_b0, pu_b1, bN_t, bN_f, bN_c, i10, i00, if_true, if_false]
  have mq : σ 64 s1 = σ 64 s3 := by rw [a1, b1]; exact eq
  have bad : fX1_hasRange 5000 σ (47 + s1) v1 w = some 0 ∨ (fX1_hasRange 5000 σ (47 + s1) v1 w = some 1 ∧ fX1_hasRange 5000 σ (47 + s3) v3 w = some 0) → fX6_copy 5000 (x_fs σ 0) (nI s1) v1 (nI s3) v3 w = bX6_copy_118 5000 (x_fs σ 0) → EV (fun s => fX5_copy 5000 s (nI s1) v1 (nI s3) v3 w) (fun s => fX6_copy 5000 s (nI s1) v1 (nI s3) v3 w) σ y := by
    intro q1 q2
    refine EV.find (w := 0) (by decide) h ?_ ?_
    · rcases q1 with q1 | ⟨q1, q3⟩
      · simp only [fX5_copy, bX5_copy_102, x_isSheet, h1, h2, p1, c1, p3, c3, e47, e473, x_missing, z3, eq, decide_false, q1, x_find0, pu_ask, pu_call, pu_bnd, pu_chk, pu_b0, pu_b1, bN_t, bN_f, bN_c, i10, i00, if_true, if_false]
      · simp only [fX5_copy, bX5_copy_102, x_isSheet, h1, h2, p1, c1, p3, c3, e47, e473, x_missing, z3, eq, decide_false, q1, q3, x_find0, pu_ask, pu_call, pu_bnd, pu_chk, pu_b0, pu_b1, bN_t, bN_f, bN_c, i10, i00, if_true, if_false]
    · show fX6_copy 5000 (x_fs σ 0) (nI s1) v1 (nI s3) v3 w = _
      rw [q2]
      simp only [bX6_copy_118, m_find0, pu_ask, pu_call, pu_bnd, pu_chk, pu_b0, pu_b1, bN_t, bN_f, bN_c, i10, i00, if_true, if_false]
  have mid : ∀ σ' : mt_St, σ' 64 = σ 64 → fX6_copy 5000 σ' (nI s1) v1 (nI s3) v3 w = (if v1 < 0 then bX6_copy_118 5000 σ' else if v3 < 0 then bX6_copy_118 5000 σ' else if w < 0 then bX6_copy_118 5000 σ' else if 0 < (lg_cmp ((Int32.toInt64 v1) + (Int32.toInt64 w)) (Int32.toInt64 (σ' 65 s1))) then bX6_copy_118 5000 σ' else if (lg_cmp ((Int32.toInt64 v3) + (Int32.toInt64 w)) (Int32.toInt64 (σ' 65 s3))) ≤ 0 then bX6_copy_128 5000 5000 σ' (nI s1) v1 (nI s3) v3 w 0 else bX6_copy_118 5000 σ') := by
    intro σ' e64
    simp only [fX6_copy, m_isSheet, h1, h2, p1, c1, p3, c3, e64, m3, mq, pu_ask, pu_call, pu_bnd, pu_chk, pu_b0, pu_b1, bN_t, bN_f, bN_c, i10, i00, if_true, if_false]
  by_cases w0 : w < 0
  · refine bad (Or.inl (x_rng1 (Or.inr w0))) ?_
    rw [mid _ (x_fs_n (by decide)), if_pos w0]
    repeat' split
    all_goals rfl
  by_cases v10 : v1 < 0
  · refine bad (Or.inl (x_rng1 (Or.inl v10))) ?_
    rw [mid _ (x_fs_n (by decide)), if_pos v10]
  obtain ⟨q, hq, rfl⟩ := nonneg_nI (Int32.not_lt.mp w0)
  obtain ⟨k1, hk1, rfl⟩ := nonneg_nI (Int32.not_lt.mp v10)
  have r1 := x_rng (fu := 5000) (σ := σ) hk1 hq hn1 en1
  by_cases o1 : k1 + q ≤ n1
  rotate_left
  · rw [show decide (k1 + q ≤ n1) = false by simp; omega, bN_f] at r1
    refine bad (Or.inl r1) ?_
    rw [mid _ (x_fs_n (by decide)), if_neg v10, if_neg w0, x_fs_n (show 65 ≠ 55 by decide), a2, en1, lg_sum hk1 hq hn1, if_neg o1, if_pos (show (0 : Int32) < 1 by decide)]
    split <;> rfl
  rw [show decide (k1 + q ≤ n1) = true by simp; omega, bN_t] at r1
  by_cases v30 : v3 < 0
  · refine bad (Or.inr ⟨r1, x_rng1 (Or.inl v30)⟩) ?_
    rw [mid _ (x_fs_n (by decide)), if_neg v10, if_pos v30]
  obtain ⟨k3, hk3, rfl⟩ := nonneg_nI (Int32.not_lt.mp v30)
  have r3 := x_rng (fu := 5000) (σ := σ) hk3 hq hn3 en3
  have lg1 : ¬ (0 : Int32) < (if k1 + q ≤ n1 then (if k1 + q = n1 then 0 else -1) else 1) := by
    rw [if_pos o1]; split <;> decide
  by_cases o3 : k3 + q ≤ n3
  rotate_left
  · rw [show decide (k3 + q ≤ n3) = false by simp; omega, bN_f] at r3
    refine bad (Or.inr ⟨r1, r3⟩) ?_
    rw [mid _ (x_fs_n (by decide)), if_neg v10, if_neg v30, if_neg w0, x_fs_n (show 65 ≠ 55 by decide), a2, en1, lg_sum hk1 hq hn1, if_neg lg1, b2, en3, lg_sum hk3 hq hn3, if_neg o3, if_neg (show ¬ (1 : Int32) ≤ 0 by decide)]
  rw [show decide (k3 + q ≤ n3) = true by simp; omega, bN_t] at r3
  have lg3 : (if k3 + q ≤ n3 then (if k3 + q = n3 then (0 : Int32) else -1) else 1) ≤ 0 := by
    rw [if_pos o3]; split <;> decide
  obtain ⟨f, f1, f2⟩ := m_cpA (s1 := s1) (p1 := k1) (s3 := s3) (p3 := k3) (q := q) (by omega) (by omega) q 0 5000 (mt_row σ (51 + s3) (va_cpy (σ (51 + s1)) (σ (51 + s3)) k1 k3 q)) (by omega) (by omega)
  obtain ⟨r, g1, g2⟩ := m_cpB (s3 := s3) (p3 := k3) (q := q) (by omega) (by omega) q 0 5000 (mt_row (mt_row σ (51 + s3) (va_cpy (σ (51 + s1)) (σ (51 + s3)) k1 k3 q)) 67 f) (by omega) (by omega)
  have c66 : mt_row σ (51 + s3) (va_cpy (σ (51 + s1)) (σ (51 + s3)) k1 k3 q) 66 = σ 66 := mt_row_n (by omega)
  have c65 : mt_row σ (51 + s3) (va_cpy (σ (51 + s1)) (σ (51 + s3)) k1 k3 q) 65 = σ 65 := mt_row_n (by omega)
  refine ⟨nI q, mt_row σ (51 + s3) (va_cpy (σ (51 + s1)) (σ (51 + s3)) k1 k3 q), mt_row (mt_row (mt_row σ (51 + s3) (va_cpy (σ (51 + s1)) (σ (51 + s3)) k1 k3 q)) 67 f) 66 r, ?_, ?_, h.sheets (h.2.2.2.1.cp (s1 := s1) (p1 := k1) (s3 := s3) (p3 := k3) (q := q) (f := f) (r := r) (by omega) (by omega) (by omega) (by omega) (fun k hk => ?_) (fun k => ?_) (mt_row_s _ _ _) ?_ (fun c c1 c2 => ?_)) ?_⟩
  · simp only [fX5_copy, bX5_copy_102, x_isSheet, h1, h2, p1, c1, p3, c3, e47, e473, x_missing, z3, eq, decide_false, r1, r3, cpok (show k1 + q ≤ 40 by omega) (show k3 + q ≤ 40 by omega), nI_clamp hk1, nI_clamp hk3, nI_clamp hq, show 47 + s1 + 4 = 51 + s1 by omega, show 47 + s3 + 4 = 51 + s3 by omega, pu_ask, pu_call, pu_bnd, pu_chk, pu_b0, pu_b1, bN_t, bN_f, bN_c, i10, i00, if_true, if_false]
  · show fX6_copy 5000 _ (nI s1) (nI k1) (nI s3) (nI k3) (nI q) = _
    rw [mid _ (mt_row_n (by omega)), if_neg v10, if_neg v30, if_neg w0, c65, a2, en1, lg_sum hk1 hq hn1, if_neg lg1, b2, en3, lg_sum hk3 hq hn3, if_pos lg3, show (0 : Int32) = nI 0 from rfl, f1, g1]
  · rw [f2 k hk, if_pos (by omega), c66]
  · rw [g2 k, mt_row_s, mt_row_n (by decide), c66]
    rfl
  · rw [mt_row_n (by omega), mt_row_n (by omega), mt_row_s]
  · rw [mt_row_n (by omega), mt_row_n (by omega), mt_row_n (by omega)]
  · intro c p q1 q2 q3 q4
    rw [mt_row_n q3, mt_row_n q4, mt_row_n (by omega)]
