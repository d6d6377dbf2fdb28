theorem x_wakLoop {y m : Nat} {a : AW} (hm : m ≤ 20) (hy : y ≤ 40000) (hw : wfA a y) : ∀ (d i fuel : Nat) (σ : mt_St), m = i + d → d < fuel → SX (wks i a) σ 1 → ∃ σ', bX5_wakings_39 5000 fuel σ (nI m) (nI i) = some (forceA (wks m a), σ') ∧ SX (wks m a) σ' 1 ∧ frW 1 σ σ' := by
  intro d
  induction d with
  | zero =>
    intro i fuel σ hd hf h
    obtain ⟨fuel, rfl⟩ : ∃ q, fuel = q + 1 := ⟨fuel - 1, by omega⟩
    have : i = m := by omega
    subst this
    unfold bX5_wakings_39
    rw [if_pos (nI_le (Nat.le_refl _) (by omega)), x_inForce (wf_wks i (by omega) hw) h, pu_ask]
    exact ⟨σ, rfl, h, frW.rf⟩
  | succ d ih =>
    intro i fuel σ hd hf h
    obtain ⟨fuel, rfl⟩ : ∃ q, fuel = q + 1 := ⟨fuel - 1, by omega⟩
    have wi := wf_wks i (show y + i < 2 ^ 30 by omega) hw
    obtain ⟨z, hz, ez, eq, ei⟩ := wkI_n (by omega) wi
    have e4 : σ 1 4 = wks i a 0 4 := h.1.2.2.2.1
    have e5 : σ 1 5 = wks i a 0 5 := h.1.2.2.2.2.1
    have e0 : σ 1 0 = wks i a 0 0 := h.1.1
    have s45 : mt_up (mt_up σ 1 5 (lcg (σ 1 5))) 2 (z % 6) (wkE (wks i a)) 1 = upd (σ 1) 5 (lcg (σ 1 5)) := by
      rw [pu_up, mt_row_n (by decide), pu_up, mt_row_s]
    have hx := x_wk wi.n8 ei h
    obtain ⟨σ1, p1, p2, p3⟩ := x_pass (fu := 5000) (w := 1) (by omega) (show y + i < 99999 by omega) (wf_wk0 wi) hx
    obtain ⟨σ2, q1, q2, q3⟩ := ih (i + 1) fuel σ1 (by omega) (by omega) p2
    refine ⟨σ2, ?_, q2, (frW.tr (frW.tr (frW.tr (frW.tr (frW.row (c := 1) (by omega) (by omega)) (frW.row (c := 2) (by omega) (by omega))) (frW.row (c := 1) (by omega) (by omega))) (frW.row (c := 1) (by omega) (by omega))) p3).tr q3⟩
    unfold bX5_wakings_39
    rw [if_neg (nI_ge (by omega) (by omega)), x_draw, pu_call, e4, eq, pu_chkP (pu_in (by omega) (by decide)), nI_clamp (by omega), pu_bnd, show 1 + 1 = 2 from rfl, e5]
    rw [e5] at s45 p1
    rw [show drw (lcg (wks i a 0 5)) - drw (lcg (wks i a 0 5)) / 13 * 13 = wkE (wks i a) from rfl, x_draw, pu_call, pu_bnd, s45, pu_upd_s, pu_upd_n (show 0 ≠ 5 by decide), e0]
    rw [show wks i a 0 0 ^^^ ((1 : Int32) <<< ((drw (lcg (lcg (wks i a 0 5))) - drw (lcg (lcg (wks i a 0 5))) / 12 * 12) &&& 31)) = wkY (wks i a) from rfl, p1, pu_call, nI_1]
    exact q1
theorem m_wakLoop {y m : Nat} {a : AW} (hm : m ≤ 20) (hy : y ≤ 40000) (hw : wfA a y) : ∀ (d i fuel : Nat) (σ : mt_St), m = i + d → d < fuel → SM (wks i a) (σ 57) → ∃ σ', bX6_wakings_39 5000 fuel σ (nI m) (nI i) = some (forceA (wks m a), σ') ∧ SM (wks m a) (σ' 57) ∧ frM σ σ' := by
  intro d
  induction d with
  | zero =>
    intro i fuel σ hd hf h
    obtain ⟨fuel, rfl⟩ : ∃ q, fuel = q + 1 := ⟨fuel - 1, by omega⟩
    have : i = m := by omega
    subst this
    unfold bX6_wakings_39
    rw [if_pos (nI_le (Nat.le_refl _) (by omega)), m_inForce (wf_wks i (by omega) hw) h, pu_ask]
    exact ⟨σ, rfl, h, frM.rf⟩
  | succ d ih =>
    intro i fuel σ hd hf h
    obtain ⟨fuel, rfl⟩ : ∃ q, fuel = q + 1 := ⟨fuel - 1, by omega⟩
    have wi := wf_wks i (show y + i < 2 ^ 30 by omega) hw
    obtain ⟨z, hz, ez, eq, ei⟩ := wkI_n (by omega) wi
    have e4 : σ 57 0 = wks i a 0 4 := h.1.2.2.2.1
    have e5 : σ 57 2 = wks i a 0 5 := h.1.2.2.2.2.1
    have e0 : σ 57 4 = wks i a 0 0 := h.1.1
    have hx := m_wk wi.n8 ei (by omega) h
    obtain ⟨σ1, p1, p2, p3, -⟩ := m_year (a := wk0 (wks i a)) (y := y + i) (σ := mt_row σ 57 (upd (upd (upd (upd (σ 57) 2 (lcg (σ 57 2))) (6 + z % 6) (wkE (wks i a))) 2 (lcg (lcg (σ 57 2)))) 4 (wkY (wks i a)))) (by omega) (wf_wk0 wi) (by rw [mt_row_s]; exact hx)
    obtain ⟨σ2, q1, q2, q3⟩ := ih (i + 1) fuel σ1 (by omega) (by omega) p2
    refine ⟨σ2, ?_, q2, (frM.row.tr p3).tr q3⟩
    unfold bX6_wakings_39
    rw [if_neg (nI_ge (by omega) (by omega)), m_draw, pu_call, e4, eq, show (6 : Int32) + nI (z % 6) = nI (6 + z % 6) from nI_add 6 (z % 6), pu_chkP (pu_in (by omega) (by decide)), nI_clamp (by omega), pu_bnd, e5]
    rw [show drw (lcg (wks i a 0 5)) - drw (lcg (wks i a 0 5)) / 13 * 13 = wkE (wks i a) from rfl, m_draw, pu_call, pu_bnd]
    simp only [pu_up, mt_row_s, pu_row_row]
    rw [pu_upd_n (show 2 ≠ 6 + z % 6 by omega), pu_upd_s, pu_upd_n (show 4 ≠ 2 by omega), pu_upd_n (show 4 ≠ 6 + z % 6 by omega), pu_upd_n (show 4 ≠ 2 by omega), e0]
    rw [show wks i a 0 0 ^^^ ((1 : Int32) <<< ((drw (lcg (lcg (wks i a 0 5))) - drw (lcg (lcg (wks i a 0 5))) / 12 * 12) &&& 31)) = wkY (wks i a) from rfl]
    rw [e5] at p1
    rw [p1, pu_call, nI_1]
    exact q1
theorem e_wakings {σ : mt_St} {y : Nat} (hy : y ≤ 40000) (h : RR σ y) (v : Int32) : EV (fun s => fX5_wakings 5000 s v) (fun s => fX6_wakings 5000 s v) σ (y + 60) := by
  obtain ⟨⟨a, ha⟩, -⟩ := id h
  obtain ⟨z, hz, ez⟩ := ha.1.2.2.2.2.1
  have h60 := h.mono (show y ≤ y + 60 by omega)
  by_cases h1 : v < 1
  · refine EV.find (w := 0) (by decide) h60 ?_ ?_
    · simp only [fX5_wakings, bX5_wakings_11, h1, x_find0, pu_ask, pu_call, pu_bnd, pu_chk, pu_b0, pu_b1, bN_t, bN_f, bN_c, i10, i00, if_true, if_false]
    · simp only [fX6_wakings, m_winL, h1, m_find0, pu_ask, pu_call, pu_bnd, pu_chk, pu_b0, pu_b1, bN_t, bN_f, bN_c, i10, i00, if_true, if_false]
  by_cases h2 : v ≤ 20
  rotate_left
  · have h2' : (20 : Int32) < v := Int32.not_le.mp h2
    refine EV.find (w := 0) (by decide) h60 ?_ ?_
    · simp only [fX5_wakings, bX5_wakings_11, h1, h2, x_find0, pu_ask, pu_call, pu_bnd, pu_chk, pu_b0, pu_b1, bN_t, bN_f, bN_c, i10, i00, if_true, if_false]
    · simp only [fX6_wakings, m_winL, h1, h2', m_find0, pu_ask, pu_call, pu_bnd, pu_chk, pu_b0, pu_b1, bN_t, bN_f, bN_c, i10, i00, if_true, if_false]
  have h2' : ¬ (20 : Int32) < v := Int32.not_lt.mpr h2
  obtain ⟨m, hm, rfl⟩ := nI_of2 (x := v) (n := 20) (M := 20) rfl (fun q => h1 (by
    rw [Int32.lt_iff_toInt_lt] at q ⊢
    have e1 : (0 : Int32).toInt = 0 := rfl
    have e2 : (1 : Int32).toInt = 1 := rfl
    omega)) h2
  have hle : nI (z + m) ≤ 99999 := nI_le (b := 99999) (by omega) (by decide)
  obtain ⟨σ1, e1, e2, e3⟩ := x_wakLoop (m := m) hm hy ha.1 m 0 5000 σ (by omega) (by omega) ha.2.1
  have w' := wf_wks m (show y + m < 2 ^ 30 by omega) ha.1
  have hm57 : SM a (σ1 57) := by rw [e3 57 (by omega)]; exact ha.2.2
  obtain ⟨σ2, f1, f2, f3⟩ := m_wakLoop (m := m) hm hy ha.1 m 0 5000 σ1 (by omega) (by omega) hm57
  refine ⟨forceA (wks m a), σ1, σ2, ?_, ?_, h.act (a := wks m a) (by omega) ⟨w'.mono (by omega), e2.same w'.n8 (fun c p q => f3.1 c (by omega) (by omega)), f2⟩ ((frW.loud (Or.inl rfl) e3).tr f3.loud)⟩
  · simp only [fX5_wakings, h1, h2, ha.2.1.1.2.2.2.1, ez, nI_add, hle, pu_ask, pu_call, pu_bnd, pu_chk, pu_b0, pu_b1, bN_t, bN_f, bN_c, i10, i00, if_true, if_false]
    exact e1
  · simp only [fX6_wakings, m_winL, h1, h2', hm57.1.2.2.2.1, ez, nI_add, hle, pu_ask, pu_call, pu_bnd, pu_chk, pu_b0, pu_b1, bN_t, bN_f, bN_c, i10, i00, if_true, if_false]
    exact f1
/-! the yard for the most gold -/
def ydA (a : AW) (i : Nat) : AW := mt_row a 0 (upd (a 0) 0 ((1 : Int32) <<< (nI i &&& 31)))
def ydG (a : AW) (m i : Nat) : Int32 := yrs m (ydA a i) 0 3
def ydB (a : AW) (m : Nat) : Nat → Int32 × Int32
  | 0 => (0, -1)
  | i + 1 => if ydG a m i ≤ (ydB a m i).2 then ydB a m i else (nI i, ydG a m i)
theorem ydB_s (a : AW) (m i : Nat) : ydB a m (i + 1) = if ydG a m i ≤ (ydB a m i).2 then ydB a m i else (nI i, ydG a m i) := rfl
theorem nA_ydA (a : AW) (i : Nat) : nA (ydA a i) = nA a := by unfold nA ydA; rw [mt_row_s, pu_upd_n (by decide)]
theorem wf_ydA {a : AW} {y i : Nat} (hi : i < 12) (h : wfA a y) : wfA (ydA a i) y := by
  obtain ⟨w1, w2, w3, w4, w5, w6, w7, w8⟩ := h
  have a1 : ydA a i 1 = a 1 := mt_row_n (by decide)
  have a3 : ydA a i 3 = a 3 := mt_row_n (by decide)
  have a4 : ∀ t, ydA a i (4 + t) = a (4 + t) := fun t => mt_row_n (by omega)
  have a0 : ydA a i 0 = upd (a 0) 0 ((1 : Int32) <<< (nI i &&& 31)) := mt_row_s _ _ _
  unfold wfA
  rw [nA_ydA, a0, a1, a3]
  refine ⟨w1, ?_, w3, w4, w5, w6, w7, fun t ht => by rw [a4]; exact w8 t ht⟩
  rw [pu_upd_s, ps_bit i hi]
  exact ⟨2 ^ i, Nat.lt_of_lt_of_le (Nat.pow_lt_pow_right (by decide) hi) (by decide), rfl⟩
theorem x_ydA {a : AW} {σ : mt_St} {w i : Nat} (h : SX a σ w) : SX (ydA a i) (mt_up σ w 0 ((1 : Int32) <<< (nI i &&& 31))) w := by
  obtain ⟨⟨e0, e1, e3, e4, e5, e7⟩, hl, hs, ht⟩ := h
  have a1 : ydA a i 1 = a 1 := mt_row_n (by decide)
  have a3 : ydA a i 3 = a 3 := mt_row_n (by decide)
  have a4 : ∀ t, ydA a i (4 + t) = a (4 + t) := fun t => mt_row_n (by omega)
  have a0 : ydA a i 0 = upd (a 0) 0 ((1 : Int32) <<< (nI i &&& 31)) := mt_row_s _ _ _
  unfold SX
  rw [nA_ydA, a0, a1, a3, pu_up, mt_row_s, mt_row_n (show w + 1 ≠ w by omega), mt_row_n (show w + 3 ≠ w by omega)]
  exact ⟨⟨rfl, e1, e3, e4, e5, e7⟩, hl, hs, fun t htn => by rw [a4, mt_row_n (by omega)]; exact ht t htn⟩
theorem m_ydA {a : AW} {r : Nat → Int32} {i : Nat} (h : SM a r) : SM (ydA a i) (upd r 4 ((1 : Int32) <<< (nI i &&& 31))) := by
  obtain ⟨⟨e0, e1, e3, e4, e5, e7⟩, hl, hs, ht⟩ := h
  have a1 : ydA a i 1 = a 1 := mt_row_n (by decide)
  have a3 : ydA a i 3 = a 3 := mt_row_n (by decide)
  have a4 : ∀ t, ydA a i (4 + t) = a (4 + t) := fun t => mt_row_n (by omega)
  have a0 : ydA a i 0 = upd (a 0) 0 ((1 : Int32) <<< (nI i &&& 31)) := mt_row_s _ _ _
  unfold SM
  rw [nA_ydA, a0, a1, a3]
  refine ⟨⟨rfl, e1, e3, e4, e5, e7⟩, fun k hk => ?_, fun k hk => ?_, fun t htn k hk => ?_⟩
  · rw [pu_upd_n (by omega)]; exact hl k hk
  · rw [pu_upd_n (by omega)]; exact hs k hk
  · show upd r 4 _ (22 + 8 * t + k) = _
    rw [a4, pu_upd_n (by omega)]; exact ht t htn k hk
theorem x_ydLoop {a : AW} {y m : Nat} (hm : m ≤ 60) (hy : y ≤ 40000) (hw : wfA a y) : ∀ (d i fuel : Nat) (σ : mt_St), 12 = i + d → d < fuel → SX a σ 1 → ∃ σ', bX5_yardFor_22 5000 fuel σ (nI m) (ydB a m i).1 (ydB a m i).2 (nI i) = some ((ydB a m 12).1, σ') ∧ frW 25 σ σ' := by
  intro d
  induction d with
  | zero =>
    intro i fuel σ hd hf h
    obtain ⟨fuel, rfl⟩ : ∃ q, fuel = q + 1 := ⟨fuel - 1, by omega⟩
    have : i = 12 := by omega
    subst this
    unfold bX5_yardFor_22
    rw [if_pos (by decide)]
    exact ⟨σ, rfl, frW.rf⟩
  | succ d ih =>
    intro i fuel σ hd hf h
    obtain ⟨fuel, rfl⟩ : ∃ q, fuel = q + 1 := ⟨fuel - 1, by omega⟩
    obtain ⟨σ1, e1, s1, f1⟩ := x_become (fu := 5000) (w := 25) (s := 1) (by omega) (by omega) hw h
    obtain ⟨σ2, e2, s2, f2⟩ := x_years (fu := 5000) (w := 25) (m := m) (by omega) (by omega) (by omega) (show y + m ≤ 99999 by omega) (wf_ydA (i := i) (by omega) hw) (x_ydA s1)
    have fr : frW 25 σ σ2 := (f1.tr (frW.row (by omega) (by omega))).tr f2
    obtain ⟨σ3, g1, g2⟩ := ih (i + 1) fuel σ2 (by omega) (by omega) (h.same hw.n8 (fun c p q => fr c (by omega)))
    refine ⟨σ3, ?_, fr.tr g2⟩
    unfold bX5_yardFor_22 bX5_yardFor_81
    rw [if_neg (show ¬ (12 : Int32) ≤ nI i from nI_ge (b := 12) (by omega) (by decide)), e1, pu_call, pu_bnd, e2, pu_call, s2.1.2.2.1, nI_1]
    rw [ydB_s] at g1
    by_cases q : ydG a m i ≤ (ydB a m i).2
    · rw [if_pos q] at g1
      rw [if_pos (show yrs m (ydA a i) 0 3 ≤ (ydB a m i).2 from q)]; exact g1
    · rw [if_neg q] at g1
      rw [if_neg (show ¬ yrs m (ydA a i) 0 3 ≤ (ydB a m i).2 from q)]; exact g1
theorem m_ydLoop {a : AW} {y m : Nat} {yd : Int32} (hm : m ≤ 60) (hy : y ≤ 40000) (hw : wfA a y) : ∀ (d i fuel : Nat) (σ : mt_St), 12 = i + d → d < fuel → (∃ x, SM a (upd (σ 57) 4 x)) → ∃ σ', bX6_yardFor_29 5000 fuel σ (nI m) yd (ydB a m i).1 (ydB a m i).2 (nI i) = some ((ydB a m 12).1, σ') ∧ (∃ r, mq (mt_row σ 57 (upd (σ 57) 4 yd)) (mt_row σ' 57 r) ∧ r = σ' 57) := by
  intro d
  induction d with
  | zero =>
    intro i fuel σ hd hf h
    obtain ⟨fuel, rfl⟩ : ∃ q, fuel = q + 1 := ⟨fuel - 1, by omega⟩
    have : i = 12 := by omega
    subst this
    unfold bX6_yardFor_29
    rw [if_pos (by decide), pu_bnd]
    exact ⟨_, rfl, _, by rw [mt_row_same]; exact mq.rf, rfl⟩
  | succ d ih =>
    intro i fuel σ hd hf h
    obtain ⟨fuel, rfl⟩ : ∃ q, fuel = q + 1 := ⟨fuel - 1, by omega⟩
    obtain ⟨x, hx⟩ := h
    have hx2 : SM (ydA a i) (mt_up σ 57 4 ((1 : Int32) <<< (nI i &&& 31)) 57) := by
      rw [pu_up, mt_row_s]
      have := m_ydA (i := i) hx
      refine this.same (by rw [nA_ydA]; exact hw.n8) (fun k hk => ?_)
      by_cases q : k = 4
      · subst q; rw [pu_upd_s, pu_upd_s]
      · rw [pu_upd_n q, pu_upd_n q, pu_upd_n q]
    obtain ⟨r, σ1, e1, s1, f1⟩ := m_behind (σ := mt_up σ 57 4 ((1 : Int32) <<< (nI i &&& 31))) (i := 3) (m := m) (wf_ydA (i := i) (by omega) hw) (by omega) (by omega) (by omega) hx2
    have k57 : ∀ k, k < 86 → k ≠ 4 → σ1 57 k = σ 57 k := fun k hk q => by rw [f1.2.2 k hk, pu_up, mt_row_s, pu_upd_n q]
    obtain ⟨σ2, g1, r2, g2, g3⟩ := ih (i + 1) fuel σ1 (by omega) (by omega) ⟨x, hx.same hw.n8 (fun k hk => by
      by_cases q : k = 4
      · subst q; rw [pu_upd_s, pu_upd_s]
      · rw [pu_upd_n q, pu_upd_n q, k57 k hk q])⟩
    refine ⟨σ2, ?_, r2, ?_, g3⟩
    · unfold bX6_yardFor_29 bX6_yardFor_68
      rw [if_neg (show ¬ (12 : Int32) ≤ nI i from nI_ge (b := 12) (by omega) (by decide)), pu_bnd, show (3 : Int32) = nI 3 from rfl, e1, pu_call, s1.1.2.2.1, nI_1]
      rw [ydB_s] at g1
      by_cases q : ydG a m i ≤ (ydB a m i).2
      · rw [if_pos q] at g1
        rw [if_pos (show yrs m (ydA a i) 0 3 ≤ (ydB a m i).2 from q)]; exact g1
      · rw [if_neg q] at g1
        rw [if_neg (show ¬ yrs m (ydA a i) 0 3 ≤ (ydB a m i).2 from q)]; exact g1
    · refine mq.tr ⟨fun c p q s => ?_, fun k hk => ?_, fun k hk => ?_⟩ g2
      · rw [mt_row_n q, mt_row_n q, f1.1 c p q s, pu_up, mt_row_n q]
      · rw [mt_row_n (by decide), mt_row_n (by decide), f1.2.1 k hk, pu_up, mt_row_n (by decide)]
      · rw [mt_row_s, mt_row_s]
        by_cases q : k = 4
        · subst q; rw [pu_upd_s, pu_upd_s]
        · rw [pu_upd_n q, pu_upd_n q, k57 k hk q]
theorem e_yardFor {σ : mt_St} {y : Nat} (hy : y ≤ 40000) (h : RR σ y) (v : Int32) : EV (fun s => fX5_yardFor 5000 s v) (fun s => fX6_yardFor 5000 s v) σ y := by
  obtain ⟨⟨a, ha⟩, -⟩ := id h
  cases h1 : okR v 60
  · refine EV.find (w := 0) (by decide) h ?_ ?_
    · simp only [fX5_yardFor, x_win, h1, x_find0, pu_ask, pu_call, pu_bnd, pu_chk, pu_b0, pu_b1, bN_t, bN_f, bN_c, i10, i00, if_true, if_false]
    · simp only [fX6_yardFor, m_isThought, h1, m_find0, pu_ask, pu_call, pu_bnd, pu_chk, pu_b0, pu_b1, bN_t, bN_f, bN_c, i10, i00, if_true, if_false]
  obtain ⟨m, hm, rfl⟩ := okR_nI (m := 60) (by decide) h1
  obtain ⟨σ1, e1, f1⟩ := x_ydLoop (m := m) hm hy ha.1 12 0 5000 σ (by omega) (by omega) ha.2.1
  have c57 : σ1 57 = σ 57 := f1 57 (by omega)
  have eu : upd (σ1 57) 4 (σ1 57 4) = σ1 57 := by funext k; unfold upd; split <;> simp_all
  obtain ⟨σ2, e2, r, f2, f3⟩ := m_ydLoop (yd := σ1 57 4) (m := m) hm hy ha.1 12 0 5000 σ1 (by omega) (by omega) ⟨σ1 57 4, by rw [eu, c57]; exact ha.2.2⟩
  rw [eu, mt_row_same, f3, mt_row_same] at f2
  refine EV.quiet (r := (ydB a m 12).1) h (σ1 := σ1) (σ2 := σ2) ?_ ?_ f1.quiet f2.quiet
  · simp only [fX5_yardFor, x_win, h1, pu_ask, pu_call, pu_bnd, pu_chk, pu_b0, pu_b1, bN_t, bN_f, bN_c, i10, i00, if_true, if_false]
    exact e1
  · simp only [fX6_yardFor, m_isThought, h1, pu_ask, pu_call, pu_bnd, pu_chk, pu_b0, pu_b1, bN_t, bN_f, bN_c, i10, i00, if_true, if_false]
    exact e2
