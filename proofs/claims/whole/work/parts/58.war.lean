/-! war and peace to come -/
theorem fkS {P : Nat → Bool} {d i : Nat} (h : P i = false) : fk P (d + 1) i = fk P d (i + 1) := by
  conv => lhs; unfold fk
  rw [h, if_neg (by decide)]
theorem fkT {P : Nat → Bool} {d i : Nat} (h : P i = true) : fk P d i = nI i := by
  cases d <;> (unfold fk; rw [h, if_pos rfl])
theorem fk0 {P : Nat → Bool} {i : Nat} (h : P i = false) : fk P 0 i = -1 := by
  unfold fk; rw [h, if_neg (by decide)]
theorem nI_m1 {k : Nat} (hk : k < 2 ^ 31) : ¬ nI k = -1 := fun e => absurd (show (-1 : Int32) < 0 by decide) (by rw [← e]; exact nI_pos hk)
theorem x_warLoop {a : AW} {y p q : Nat} (hy : y ≤ 40000) (hw : wfA a y) (hp : p < 6) (hq : q < 6) : ∀ (d i fuel : Nat) (σ : mt_St), 200 = i + d → d + 1 < fuel → SX (yrs i a) σ 25 → ∃ σ', frW 25 σ σ' ∧ (∀ k, fk (fun i => warI (yrs i a) (prI p q)) d i = nI k → k ≤ 200 → bX5_war_34 5000 fuel σ (pb (prI p q)) (nI i) = some (nI k, σ')) ∧ (fk (fun i => warI (yrs i a) (prI p q)) d i = -1 → bX5_war_34 5000 fuel σ (pb (prI p q)) (nI i) = some (-1000001 - nI 3, x_fs σ' 3)) := by
  have hl := pr_lt p hp q hq
  intro d
  induction d with
  | zero =>
    intro i fuel σ hd hf h
    obtain ⟨fuel, rfl⟩ : ∃ q, fuel = q + 1 := ⟨fuel - 1, by omega⟩
    obtain ⟨fuel, rfl⟩ : ∃ q, fuel = q + 1 := ⟨fuel - 1, by omega⟩
    have wi := wf_yrs i (show y + i < 2 ^ 30 by omega) hw
    obtain ⟨x, x1, x2⟩ := x_pairs wi h
    obtain ⟨σ1, p1, p2, p3⟩ := x_pass (fu := 5000) (w := 25) (by omega) (show y + i < 99999 by omega) wi h
    cases t : warI (yrs i a) (prI p q)
    · refine ⟨σ1, p3, fun k hk hk2 => ?_, fun hk => ?_⟩
      · rw [fk0 (P := (fun i => warI (yrs i a) (prI p q))) t] at hk
        exact absurd hk.symm (nI_m1 (by omega))
      · unfold bX5_war_34
        rw [if_neg (show ¬ (200 : Int32) < nI i from nI_nlt (show i ≤ 200 by omega) (by decide)), x1, pu_ask]
        rw [if_pos ((lg0 _).mpr ((and_pb hl).mpr (by rw [x2 _ (by omega)]; exact t)))]
        rw [p1, pu_call, nI_1]
        unfold bX5_war_34
        rw [if_pos (show (200 : Int32) < nI (i + 1) from nI_lt (a := 200) (by omega) (by omega)), x_find3, pu_call]
    · refine ⟨σ, frW.rf, fun k hk hk2 => ?_, fun hk => ?_⟩
      · rw [fkT (P := (fun i => warI (yrs i a) (prI p q))) t] at hk
        unfold bX5_war_34
        rw [if_neg (show ¬ (200 : Int32) < nI i from nI_nlt (show i ≤ 200 by omega) (by decide)), x1, pu_ask]
        rw [if_neg (fun e => by have := (and_pb hl).mp ((lg0 _).mp e); rw [x2 _ (by omega), t] at this; cases this)]
        rw [hk]
      · rw [fkT (P := (fun i => warI (yrs i a) (prI p q))) t] at hk
        exact absurd hk (nI_m1 (by omega))
  | succ d ih =>
    intro i fuel σ hd hf h
    obtain ⟨fuel, rfl⟩ : ∃ q, fuel = q + 1 := ⟨fuel - 1, by omega⟩
    have wi := wf_yrs i (show y + i < 2 ^ 30 by omega) hw
    obtain ⟨x, x1, x2⟩ := x_pairs wi h
    cases t : warI (yrs i a) (prI p q)
    · obtain ⟨σ1, p1, p2, p3⟩ := x_pass (fu := 5000) (w := 25) (by omega) (show y + i < 99999 by omega) wi h
      obtain ⟨σ2, e1, e2, e3⟩ := ih (i + 1) fuel σ1 (by omega) (by omega) p2
      have stp : bX5_war_34 5000 (fuel + 1) σ (pb (prI p q)) (nI i) = bX5_war_34 5000 fuel σ1 (pb (prI p q)) (nI (i + 1)) := by
        conv => lhs; unfold bX5_war_34
        rw [if_neg (show ¬ (200 : Int32) < nI i from nI_nlt (show i ≤ 200 by omega) (by decide)), x1, pu_ask]
        rw [if_pos ((lg0 _).mpr ((and_pb hl).mpr (by rw [x2 _ (by omega)]; exact t)))]
        rw [p1, pu_call, nI_1]
      refine ⟨σ2, p3.tr e1, fun k hk hk2 => ?_, fun hk => ?_⟩
      · rw [fkS (P := (fun i => warI (yrs i a) (prI p q))) t] at hk
        rw [stp]; exact e2 k hk hk2
      · rw [fkS (P := (fun i => warI (yrs i a) (prI p q))) t] at hk
        rw [stp]; exact e3 hk
    · refine ⟨σ, frW.rf, fun k hk hk2 => ?_, fun hk => ?_⟩
      · rw [fkT (P := (fun i => warI (yrs i a) (prI p q))) t] at hk
        unfold bX5_war_34
        rw [if_neg (show ¬ (200 : Int32) < nI i from nI_nlt (show i ≤ 200 by omega) (by decide)), x1, pu_ask]
        rw [if_neg (fun e => by have := (and_pb hl).mp ((lg0 _).mp e); rw [x2 _ (by omega), t] at this; cases this)]
        rw [hk]
      · rw [fkT (P := (fun i => warI (yrs i a) (prI p q))) t] at hk
        exact absurd hk (nI_m1 (by omega))
theorem m_warLoop {a : AW} {y p q : Nat} {s0 : mt_St} (hy : y ≤ 40000) (hw : wfA a y) (hp : p < 6) (hq : q < 6) (hs : ∀ k, k < 86 → s0 59 k = s0 57 k) : ∀ (d i fuel : Nat) (σ : mt_St), 200 = i + d → d < fuel → SM (yrs i a) (σ 57) → frM s0 σ → ∃ σ', bX6_war_39 5000 fuel σ (nI p) (nI q) (nI i) = mt_call (fX6_orNone 5000 σ' (fk (fun i => warI (yrs i a) (prI p q)) d i)) (fun r s => some (r, s)) ∧ (∀ c, c ≠ 56 → c ≠ 57 → σ' c = s0 c) ∧ (∀ k, k ≠ 5 → σ' 56 k = s0 56 k) ∧ ∀ k, k < 86 → σ' 57 k = s0 57 k := by
  have fin : ∀ (σ : mt_St) (x : Int32), frM s0 σ → ∃ σ', bX6_war_81 5000 σ x = mt_call (fX6_orNone 5000 σ' x) (fun r s => some (r, s)) ∧ (∀ c, c ≠ 56 → c ≠ 57 → σ' c = s0 c) ∧ (∀ k, k ≠ 5 → σ' 56 k = s0 56 k) ∧ ∀ k, k < 86 → σ' 57 k = s0 57 k := by
    intro σ x h
    obtain ⟨q, e1, e2⟩ := m_copy (a1 := 59) (a2 := 57) (by decide) σ
    refine ⟨mt_row σ 57 q, ?_, fun c p s => by rw [mt_row_n s, h.1 c s p], fun k hk => by rw [mt_row_n (by decide), h.2 k hk], fun k hk => by rw [mt_row_s, e2 k hk, h.1 59 (by decide) (by decide), hs k hk]⟩
    unfold bX6_war_81 fX6_putBack
    rw [e1, pu_call, pu_call]
  intro d
  induction d with
  | zero =>
    intro i fuel σ hd hf h hfr
    obtain ⟨fuel, rfl⟩ : ∃ q, fuel = q + 1 := ⟨fuel - 1, by omega⟩
    have wi := wf_yrs i (show y + i < 2 ^ 30 by omega) hw
    unfold bX6_war_39 bX6_war_65
    rw [if_pos (show (200 : Int32) ≤ nI i from nI_le (a := 200) (by omega) (by omega)), m_isWar wi h hp hq, pu_ask]
    cases t : warI (yrs i a) (prI p q)
    · rw [fk0 (P := (fun i => warI (yrs i a) (prI p q))) t]
      rw [bN_f, if_pos rfl]
      exact fin σ _ hfr
    · rw [fkT (P := (fun i => warI (yrs i a) (prI p q))) t]
      rw [bN_t, if_neg i10']
      exact fin σ _ hfr
  | succ d ih =>
    intro i fuel σ hd hf h hfr
    obtain ⟨fuel, rfl⟩ : ∃ q, fuel = q + 1 := ⟨fuel - 1, by omega⟩
    have wi := wf_yrs i (show y + i < 2 ^ 30 by omega) hw
    unfold bX6_war_39 bX6_war_65
    rw [if_neg (show ¬ (200 : Int32) ≤ nI i from nI_ge (b := 200) (by omega) (by decide)), m_isWar wi h hp hq, pu_ask, pu_ask]
    cases t : warI (yrs i a) (prI p q)
    · obtain ⟨σ1, p1, p2, p3, -⟩ := m_year (a := yrs i a) (y := y + i) (σ := σ) (by omega) wi h
      rw [fkS (P := (fun i => warI (yrs i a) (prI p q))) t]
      rw [bN_f, if_pos rfl]
      rw [p1, pu_call, nI_1]
      exact ih (i + 1) fuel σ1 (by omega) (by omega) p2 (hfr.tr p3)
    · rw [fkT (P := (fun i => warI (yrs i a) (prI p q))) t]
      rw [bN_t, if_neg i10']
      rw [if_neg i10']
      exact fin σ _ hfr
theorem x_peaceLoop {a : AW} {y : Nat} (hy : y ≤ 40000) (hw : wfA a y) : ∀ (d i fuel : Nat) (σ : mt_St), 200 = i + d → d + 1 < fuel → SX (yrs i a) σ 25 → ∃ σ', frW 25 σ σ' ∧ (∀ k, fk (fun i => decide (wcnt (yrs i a) ≤ 0)) d i = nI k → k ≤ 200 → bX5_peace_13 5000 fuel σ (nI i) = some (nI k, σ')) ∧ (fk (fun i => decide (wcnt (yrs i a) ≤ 0)) d i = -1 → bX5_peace_13 5000 fuel σ (nI i) = some (-1000001 - nI 3, x_fs σ' 3)) := by
  intro d
  induction d with
  | zero =>
    intro i fuel σ hd hf h
    obtain ⟨fuel, rfl⟩ : ∃ q, fuel = q + 1 := ⟨fuel - 1, by omega⟩
    obtain ⟨fuel, rfl⟩ : ∃ q, fuel = q + 1 := ⟨fuel - 1, by omega⟩
    have wi := wf_yrs i (show y + i < 2 ^ 30 by omega) hw
    obtain ⟨x, x1, x2⟩ := x_pairs wi h
    obtain ⟨σ1, p1, p2, p3⟩ := x_pass (fu := 5000) (w := 25) (by omega) (show y + i < 99999 by omega) wi h
    cases t : decide (wcnt (yrs i a) ≤ 0)
    · refine ⟨σ1, p3, fun k hk hk2 => ?_, fun hk => ?_⟩
      · rw [fk0 (P := (fun i => decide (wcnt (yrs i a) ≤ 0))) t] at hk
        exact absurd hk.symm (nI_m1 (by omega))
      · unfold bX5_peace_13
        rw [if_neg (show ¬ (200 : Int32) < nI i from nI_nlt (show i ≤ 200 by omega) (by decide)), x1, pu_ask]
        rw [if_neg (fun e => of_decide_eq_false t ((wcnt_0 wi x2).mp ((lg0 _).mp e)))]
        rw [p1, pu_call, nI_1]
        unfold bX5_peace_13
        rw [if_pos (show (200 : Int32) < nI (i + 1) from nI_lt (a := 200) (by omega) (by omega)), x_find3, pu_call]
    · refine ⟨σ, frW.rf, fun k hk hk2 => ?_, fun hk => ?_⟩
      · rw [fkT (P := (fun i => decide (wcnt (yrs i a) ≤ 0))) t] at hk
        unfold bX5_peace_13
        rw [if_neg (show ¬ (200 : Int32) < nI i from nI_nlt (show i ≤ 200 by omega) (by decide)), x1, pu_ask]
        rw [if_pos ((lg0 _).mpr ((wcnt_0 wi x2).mpr (of_decide_eq_true t)))]
        rw [hk]
      · rw [fkT (P := (fun i => decide (wcnt (yrs i a) ≤ 0))) t] at hk
        exact absurd hk (nI_m1 (by omega))
  | succ d ih =>
    intro i fuel σ hd hf h
    obtain ⟨fuel, rfl⟩ : ∃ q, fuel = q + 1 := ⟨fuel - 1, by omega⟩
    have wi := wf_yrs i (show y + i < 2 ^ 30 by omega) hw
    obtain ⟨x, x1, x2⟩ := x_pairs wi h
    cases t : decide (wcnt (yrs i a) ≤ 0)
    · obtain ⟨σ1, p1, p2, p3⟩ := x_pass (fu := 5000) (w := 25) (by omega) (show y + i < 99999 by omega) wi h
      obtain ⟨σ2, e1, e2, e3⟩ := ih (i + 1) fuel σ1 (by omega) (by omega) p2
      have stp : bX5_peace_13 5000 (fuel + 1) σ (nI i) = bX5_peace_13 5000 fuel σ1 (nI (i + 1)) := by
        conv => lhs; unfold bX5_peace_13
        rw [if_neg (show ¬ (200 : Int32) < nI i from nI_nlt (show i ≤ 200 by omega) (by decide)), x1, pu_ask]
        rw [if_neg (fun e => of_decide_eq_false t ((wcnt_0 wi x2).mp ((lg0 _).mp e)))]
        rw [p1, pu_call, nI_1]
      refine ⟨σ2, p3.tr e1, fun k hk hk2 => ?_, fun hk => ?_⟩
      · rw [fkS (P := (fun i => decide (wcnt (yrs i a) ≤ 0))) t] at hk
        rw [stp]; exact e2 k hk hk2
      · rw [fkS (P := (fun i => decide (wcnt (yrs i a) ≤ 0))) t] at hk
        rw [stp]; exact e3 hk
    · refine ⟨σ, frW.rf, fun k hk hk2 => ?_, fun hk => ?_⟩
      · rw [fkT (P := (fun i => decide (wcnt (yrs i a) ≤ 0))) t] at hk
        unfold bX5_peace_13
        rw [if_neg (show ¬ (200 : Int32) < nI i from nI_nlt (show i ≤ 200 by omega) (by decide)), x1, pu_ask]
        rw [if_pos ((lg0 _).mpr ((wcnt_0 wi x2).mpr (of_decide_eq_true t)))]
        rw [hk]
      · rw [fkT (P := (fun i => decide (wcnt (yrs i a) ≤ 0))) t] at hk
        exact absurd hk (nI_m1 (by omega))
theorem m_peaceLoop {a : AW} {y : Nat} {s0 : mt_St} (hy : y ≤ 40000) (hw : wfA a y) (hs : ∀ k, k < 86 → s0 59 k = s0 57 k) : ∀ (d i fuel : Nat) (σ : mt_St), 200 = i + d → d < fuel → SM (yrs i a) (σ 57) → frM s0 σ → ∃ σ', bX6_peace_13 5000 fuel σ (nI i) = mt_call (fX6_orNone 5000 σ' (fk (fun i => decide (wcnt (yrs i a) ≤ 0)) d i)) (fun r s => some (r, s)) ∧ (∀ c, c ≠ 56 → c ≠ 57 → σ' c = s0 c) ∧ (∀ k, k ≠ 5 → σ' 56 k = s0 56 k) ∧ ∀ k, k < 86 → σ' 57 k = s0 57 k := by
  have fin : ∀ (σ : mt_St) (x : Int32), frM s0 σ → ∃ σ', bX6_peace_51 5000 σ x = mt_call (fX6_orNone 5000 σ' x) (fun r s => some (r, s)) ∧ (∀ c, c ≠ 56 → c ≠ 57 → σ' c = s0 c) ∧ (∀ k, k ≠ 5 → σ' 56 k = s0 56 k) ∧ ∀ k, k < 86 → σ' 57 k = s0 57 k := by
    intro σ x h
    obtain ⟨q, e1, e2⟩ := m_copy (a1 := 59) (a2 := 57) (by decide) σ
    refine ⟨mt_row σ 57 q, ?_, fun c p s => by rw [mt_row_n s, h.1 c s p], fun k hk => by rw [mt_row_n (by decide), h.2 k hk], fun k hk => by rw [mt_row_s, e2 k hk, h.1 59 (by decide) (by decide), hs k hk]⟩
    unfold bX6_peace_51 fX6_putBack
    rw [e1, pu_call, pu_call]
  intro d
  induction d with
  | zero =>
    intro i fuel σ hd hf h hfr
    obtain ⟨fuel, rfl⟩ : ∃ q, fuel = q + 1 := ⟨fuel - 1, by omega⟩
    have wi := wf_yrs i (show y + i < 2 ^ 30 by omega) hw
    unfold bX6_peace_13 bX6_peace_37
    rw [if_pos (show (200 : Int32) ≤ nI i from nI_le (a := 200) (by omega) (by omega)), m_pairs wi h, pu_ask]
    cases t : decide (wcnt (yrs i a) ≤ 0)
    · rw [fk0 (P := (fun i => decide (wcnt (yrs i a) ≤ 0))) t]
      rw [if_neg (of_decide_eq_false t)]
      exact fin σ _ hfr
    · rw [fkT (P := (fun i => decide (wcnt (yrs i a) ≤ 0))) t]
      rw [if_pos (of_decide_eq_true t)]
      exact fin σ _ hfr
  | succ d ih =>
    intro i fuel σ hd hf h hfr
    obtain ⟨fuel, rfl⟩ : ∃ q, fuel = q + 1 := ⟨fuel - 1, by omega⟩
    have wi := wf_yrs i (show y + i < 2 ^ 30 by omega) hw
    unfold bX6_peace_13 bX6_peace_37
    rw [if_neg (show ¬ (200 : Int32) ≤ nI i from nI_ge (b := 200) (by omega) (by decide)), m_pairs wi h, pu_ask, pu_ask]
    cases t : decide (wcnt (yrs i a) ≤ 0)
    · obtain ⟨σ1, p1, p2, p3, -⟩ := m_year (a := yrs i a) (y := y + i) (σ := σ) (by omega) wi h
      rw [fkS (P := (fun i => decide (wcnt (yrs i a) ≤ 0))) t]
      rw [if_neg (of_decide_eq_false t)]
      rw [p1, pu_call, nI_1]
      exact ih (i + 1) fuel σ1 (by omega) (by omega) p2 (hfr.tr p3)
    · rw [fkT (P := (fun i => decide (wcnt (yrs i a) ≤ 0))) t]
      rw [if_pos (of_decide_eq_true t)]
      rw [if_pos (of_decide_eq_true t)]
      exact fin σ _ hfr
theorem e_war {σ : mt_St} {y : Nat} (hy : y ≤ 40000) (h : RR σ y) (u v : Int32) : EV (fun s => fX5_war 5000 s u v) (fun s => fX6_war 5000 s u v) σ y := by
  obtain ⟨⟨a, ha⟩, -⟩ := id h
  have hn8 := ha.1.n8
  cases h1 : okR u 5
  · refine EV.find (w := 0) (by decide) h ?_ ?_
    · simp only [fX5_war, x_pair, h1, Bool.false_and, x_find0, pu_ask, pu_call, pu_bnd, pu_chk, pu_b0, pu_b1, bN_t, bN_f, bN_c, i10, i00, if_true, if_false]
    · simp only [fX6_war, bX6_war_19, m_isPower, h1, m_find0, pu_ask, pu_call, pu_bnd, pu_chk, pu_b0, pu_b1, bN_t, bN_f, bN_c, i10, i00, if_true, if_false]
  cases h2 : okR v 5
  · refine EV.find (w := 0) (by decide) h ?_ ?_
    · simp only [fX5_war, x_pair, h1, h2, Bool.false_and, Bool.and_false, x_find0, pu_ask, pu_call, pu_bnd, pu_chk, pu_b0, pu_b1, bN_t, bN_f, bN_c, i10, i00, if_true, if_false]
    · simp only [fX6_war, bX6_war_19, m_isPower, h1, h2, m_find0, pu_ask, pu_call, pu_bnd, pu_chk, pu_b0, pu_b1, bN_t, bN_f, bN_c, i10, i00, if_true, if_false]
  by_cases h3 : u = v
  · refine EV.find (w := 0) (by decide) h ?_ ?_
    · simp only [fX5_war, x_pair, h1, h2, h3, decide_true, Bool.not_true, Bool.and_false, x_find0, pu_ask, pu_call, pu_bnd, pu_chk, pu_b0, pu_b1, bN_t, bN_f, bN_c, i10, i00, if_true, if_false]
    · simp only [fX6_war, bX6_war_19, m_isPower, h1, h2, h3, m_find0, pu_ask, pu_call, pu_bnd, pu_chk, pu_b0, pu_b1, bN_t, bN_f, bN_c, i10, i00, if_true, if_false]
  obtain ⟨p, hp, rfl⟩ := okR_nI (m := 5) (by decide) h1
  obtain ⟨q, hq, rfl⟩ := okR_nI (m := 5) (by decide) h2
  obtain ⟨σ1, e1, s1, f1⟩ := x_become (fu := 5000) (w := 25) (s := 1) (by omega) (by omega) ha.1 ha.2.1
  obtain ⟨σ2, f2, l1, l2⟩ := x_warLoop (p := p) (q := q) hy ha.1 (by omega) (by omega) 200 0 5000 σ1 (by omega) (by omega) s1
  have fr := f1.tr f2
  have st : fX5_war 5000 σ (nI p) (nI q) = bX5_war_34 5000 5000 σ1 (pb (prI p q)) 0 := by
    unfold fX5_war
    rw [x_pair, pu_ask, h1, h2, decide_eq_false h3, show (true && true && !false) = true from rfl, bN_t, if_neg i10', x_prI p (by omega) q (by omega), pu_ask, e1, pu_call]
  refine ev_search (P := fun i => warI (yrs i a) (prI p q)) h (σ1 := σ2) fr.quiet ⟨fun k hk e => ?_, fun e => ?_⟩ (fun s hs => ?_)
  · show fX5_war 5000 σ (nI p) (nI q) = _
    rw [st]
    exact l1 k e hk
  · show fX5_war 5000 σ (nI p) (nI q) = _
    rw [st]
    exact l2 e
  · have s57 : s 57 = σ 57 := by
      rcases hs with rfl | rfl
      · exact fr 57 (by omega)
      · rw [x_fs_n (by decide)]; exact fr 57 (by omega)
    obtain ⟨r, c1, c2⟩ := m_copy (a1 := 57) (a2 := 59) (by decide) s
    obtain ⟨s', g1, g2, g3, g4⟩ := m_warLoop (p := p) (q := q) (s0 := mt_row s 59 r) hy ha.1 (by omega) (by omega) (fun k hk => by rw [mt_row_s, mt_row_n (by decide)]; exact c2 k hk) 200 0 5000 (mt_row s 59 r) (by omega) (by omega) (by rw [mt_row_n (by decide), s57]; exact ha.2.2) frM.rf
    have q : mq s s' := ⟨fun c p q s => by rw [g2 c p q, mt_row_n s], fun k hk => by rw [g3 k hk, mt_row_n (by decide)], fun k hk => by rw [g4 k hk, mt_row_n (by decide)]⟩
    refine ⟨s', q.quiet, ?_⟩
    show fX6_war 5000 s (nI p) (nI _) = _
    unfold fX6_war
    rw [m_isPower, pu_ask, h1, bN_t, if_neg i10', m_isPower, pu_ask, h2, bN_t, if_neg i10', if_neg h3, c1, pu_call]
    exact g1
theorem e_peace {σ : mt_St} {y : Nat} (hy : y ≤ 40000) (h : RR σ y) : EV (fun s => fX5_peace 5000 s) (fun s => fX6_peace 5000 s) σ y := by
  obtain ⟨⟨a, ha⟩, -⟩ := id h
  have hn8 := ha.1.n8
  obtain ⟨σ1, e1, s1, f1⟩ := x_become (fu := 5000) (w := 25) (s := 1) (by omega) (by omega) ha.1 ha.2.1
  obtain ⟨σ2, f2, l1, l2⟩ := x_peaceLoop hy ha.1 200 0 5000 σ1 (by omega) (by omega) s1
  have fr := f1.tr f2
  have st : fX5_peace 5000 σ = bX5_peace_13 5000 5000 σ1 0 := by
    unfold fX5_peace
    rw [e1, pu_call]
  refine ev_search (P := fun i => decide (wcnt (yrs i a) ≤ 0)) h (σ1 := σ2) fr.quiet ⟨fun k hk e => ?_, fun e => ?_⟩ (fun s hs => ?_)
  · show fX5_peace 5000 σ = _
    rw [st]
    exact l1 k e hk
  · show fX5_peace 5000 σ = _
    rw [st]
    exact l2 e
  · have s57 : s 57 = σ 57 := by
      rcases hs with rfl | rfl
      · exact fr 57 (by omega)
      · rw [x_fs_n (by decide)]; exact fr 57 (by omega)
    obtain ⟨r, c1, c2⟩ := m_copy (a1 := 57) (a2 := 59) (by decide) s
    obtain ⟨s', g1, g2, g3, g4⟩ := m_peaceLoop (s0 := mt_row s 59 r) hy ha.1 (fun k hk => by rw [mt_row_s, mt_row_n (by decide)]; exact c2 k hk) 200 0 5000 (mt_row s 59 r) (by omega) (by omega) (by rw [mt_row_n (by decide), s57]; exact ha.2.2) frM.rf
    have q : mq s s' := ⟨fun c p q s => by rw [g2 c p q, mt_row_n s], fun k hk => by rw [g3 k hk, mt_row_n (by decide)], fun k hk => by rw [g4 k hk, mt_row_n (by decide)]⟩
    refine ⟨s', q.quiet, ?_⟩
    show fX6_peace 5000 s = _
    unfold fX6_peace
    rw [c1, pu_call]
    exact g1
