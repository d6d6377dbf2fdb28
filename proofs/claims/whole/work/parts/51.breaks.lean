theorem x_brkLoop {a : AW} {T : Nat → Int32} {v : Int32} {P : Nat → Bool} (hP : ∀ i, i ≤ 200 → (¬ alo a T i 7 ≤ v ↔ P i = true)) : ∀ (d i fuel : Nat) (σ : mt_St), 200 = i + d → d + 1 < fuel → P i = false → tE (σ 37) (alo a T i) → (∀ k, k < 200 → σ 38 k = upA (yrs k a)) → σ 1 0 = a 0 0 → ∃ f, (∀ k, fk P d i = nI k → k ≤ 200 → bX5_breaks_36 5000 fuel σ v (nI (i + 1)) = some (nI k, mt_row σ 37 f)) ∧ (fk P d i = -1 → bX5_breaks_36 5000 fuel σ v (nI (i + 1)) = some (-1000001 - nI 3, x_fs (mt_row σ 37 f) 3)) := by
  intro d
  induction d with
  | zero =>
    intro i fuel σ hd hf hp h hu h0
    obtain ⟨fuel, rfl⟩ : ∃ q, fuel = q + 1 := ⟨fuel - 1, by omega⟩
    have : i = 200 := by omega
    subst this
    refine ⟨σ 37, fun k hk hk2 => ?_, fun hk => ?_⟩
    · unfold fk at hk
      rw [hp, if_neg (by decide)] at hk
      exact absurd (show (-1 : Int32) < 0 by decide) (by rw [hk]; exact nI_pos (by omega))
    · unfold bX5_breaks_36
      rw [if_pos (by decide), x_find3, pu_call, mt_row_same]
  | succ d ih =>
    intro i fuel σ hd hf hp h hu h0
    obtain ⟨fuel, rfl⟩ : ∃ q, fuel = q + 1 := ⟨fuel - 1, by omega⟩
    have hl : tE (liveT (σ 37) (upA (yrs i a)) (a 0 0)) (alo a T (i + 1)) := tE_live h _ _
    have efk : fk P (d + 1) i = fk P d (i + 1) := by conv => lhs; unfold fk
                                                     rw [hp, if_neg (by decide)]
    have stp : bX5_breaks_36 5000 (fuel + 1) σ v (nI (i + 1)) = if alo a T (i + 1) 7 ≤ v then bX5_breaks_36 5000 fuel (mt_row σ 37 (liveT (σ 37) (upA (yrs i a)) (a 0 0))) v (nI (i + 1 + 1)) else some (nI (i + 1), mt_row σ 37 (liveT (σ 37) (upA (yrs i a)) (a 0 0))) := by
      conv => lhs; unfold bX5_breaks_36
      rw [if_neg (show ¬ (200 : Int32) < nI (i + 1) from nI_nlt (show i + 1 ≤ 200 by omega) (by decide)), nI_pred, pu_chkP (pu_in (by omega) (by decide)), nI_clamp (by omega), hu i (by omega), h0, x_live, pu_call, mt_row_s, hl 7 (by decide), nI_1]
    rw [efk]
    cases q : P (i + 1)
    · have q2 : alo a T (i + 1) 7 ≤ v := Decidable.byContradiction (fun z => by rw [(hP (i + 1) (by omega)).mp z] at q; cases q)
      obtain ⟨f, e1, e2⟩ := ih (i + 1) fuel (mt_row σ 37 (liveT (σ 37) (upA (yrs i a)) (a 0 0))) (by omega) (by omega) q (by rw [mt_row_s]; exact hl) (fun k hk => by rw [mt_row_n (by decide)]; exact hu k hk) (by rw [mt_row_n (by decide)]; exact h0)
      rw [pu_row_row] at e1 e2
      refine ⟨f, fun k hk hk2 => ?_, fun hk => ?_⟩
      · rw [stp, if_pos q2]; exact e1 k hk hk2
      · rw [stp, if_pos q2]; exact e2 hk
    · have q2 : ¬ alo a T (i + 1) 7 ≤ v := (hP (i + 1) (by omega)).mpr q
      have e : fk P d (i + 1) = nI (i + 1) := by cases d <;> (unfold fk; rw [q, if_pos rfl])
      refine ⟨liveT (σ 37) (upA (yrs i a)) (a 0 0), fun k hk hk2 => ?_, fun hk => ?_⟩
      · rw [stp, if_neg q2, ← hk, e]
      · rw [e] at hk
        exact absurd (show (-1 : Int32) < 0 by decide) (by rw [← hk]; exact nI_pos (by omega))
theorem e_breaks {σ : mt_St} {y : Nat} (hy : y ≤ 40000) (h : RR σ y) (u : Int32) : EV (fun s => fX5_breaks 5000 s u) (fun s => fX6_breaks 5000 s u) σ y := by
  obtain ⟨⟨a, ha⟩, -⟩ := id h
  obtain ⟨i7, i1⟩ := ha.isT
  have hn8 := ha.1.n8
  cases h1 : okR u (nI (nA a) - 1)
  · refine EV.find (w := 0) (by decide) h ?_ ?_
    · simp only [fX5_breaks, x_isTreaty, i7, h1, x_find0, pu_ask, pu_call, pu_bnd, pu_chk, pu_b0, pu_b1, bN_t, bN_f, bN_c, i10, i00, if_true, if_false]
    · simp only [fX6_breaks, bX6_breaks_40, m_isTreaty, x_fs_n (show 57 ≠ 55 by decide), i1, h1, m_find0, pu_ask, pu_call, pu_bnd, pu_chk, pu_b0, pu_b1, bN_t, bN_f, bN_c, i10, i00, if_true, if_false]
  obtain ⟨t, ht, rfl⟩ := okT ha.1.n8 h1
  obtain ⟨b, hb, eb⟩ := (ha.wT ht).2.2.2.2.2.2.2.2
  have hx := x_fore (m := 200) (by omega) hy ha.1 ha.2.1
  rw [show nI 200 = (200 : Int32) from rfl] at hx
  obtain ⟨f, e1, u1⟩ := hx
  have s1 : SX a (mt_row σ 38 f) 1 := ha.2.1.same hn8 (fun c p q => mt_row_n (by omega))
  obtain ⟨g, e2, t2⟩ := x_try ha.1 s1 ht
  have hg7 : g 7 = nI b := (t2 7 (by decide)).trans eb
  obtain ⟨l, l1, l2⟩ := x_brkLoop (a := a) (T := a (4 + t)) (v := nI b) (P := fun i => decide (¬ alo a (a (4 + t)) i 7 ≤ nI b)) (fun i _ => by simp) 200 0 5000 (mt_row (mt_row σ 38 f) 37 g) (by omega) (by omega) (by show decide (¬ a (4 + t) 7 ≤ nI b) = false; rw [eb]; simp) (by rw [mt_row_s]; exact t2) (fun k hk => by rw [mt_row_n (by decide), mt_row_s]; exact u1 k hk) (by rw [mt_row_n (by decide), mt_row_n (by decide)]; exact ha.2.1.1.1)
  refine ev_search (P := fun i => decide (¬ alo a (a (4 + t)) i 7 ≤ nI b)) h (σ1 := mt_row (mt_row (mt_row σ 38 f) 37 g) 37 l) (((quiet.row (by omega)).tr (quiet.row (by omega))).tr (quiet.row (by omega))) ⟨fun k hk e => ?_, fun e => ?_⟩ (fun s hs => ?_)
  · simp only [fX5_breaks, x_isTreaty, i7, h1, e1, e2, mt_row_s, hg7, pu_ask, pu_call, pu_bnd, pu_chk, pu_b0, pu_b1, bN_t, bN_f, bN_c, i10, i00, if_true, if_false]
    exact l1 k e hk
  · simp only [fX5_breaks, x_isTreaty, i7, h1, e1, e2, mt_row_s, hg7, pu_ask, pu_call, pu_bnd, pu_chk, pu_b0, pu_b1, bN_t, bN_f, bN_c, i10, i00, if_true, if_false]
    exact l2 e
  · have s57 : s 57 = σ 57 := by
      rcases hs with rfl | rfl
      · rw [mt_row_n (by decide), mt_row_n (by decide), mt_row_n (by decide)]
      · rw [x_fs_n (by decide), mt_row_n (by decide), mt_row_n (by decide), mt_row_n (by decide)]
    have m7 : gT (s 57) t 7 = nI b := by rw [s57]; exact (ha.mT ht 7 (by decide)).trans eb
    obtain ⟨s', g1, g2⟩ := m_yearsTo (a := a) (j := 22 + 8 * t + 7) (v := nI (b + 1)) (σ := s) (P := fun i => decide (¬ alo a (a (4 + t)) i 7 ≤ nI b)) hy ha.1 (by omega) (by rw [s57]; exact ha.2.2) (fun i r hi hr => by
      have := hr.2.2.2 t (by rw [nA_yrs]; exact ht) 7 (by decide)
      have e : r (22 + 8 * t + 7) = alo a (a (4 + t)) i 7 := by rw [← yrs_alo' ht]; exact this
      rw [e]
      simp only [decide_eq_true_eq]
      rw [Int32.le_iff_toInt_le, Int32.le_iff_toInt_le, nI_toInt (by omega), nI_toInt (by omega)]
      omega)
    refine ⟨s', g2.quiet, ?_⟩
    simp only [fX6_breaks, bX6_breaks_40, m_isTreaty, s57, i1, h1, m_at7, m_is7 5000 s (show t < 8 by omega), m7, nI_1, g1, pu_ask, pu_call, pu_bnd, pu_chk, pu_b0, pu_b1, bN_t, bN_f, bN_c, i10, i00, if_true, if_false]
