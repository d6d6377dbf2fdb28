theorem e_image {σ : mt_St} {y : Nat} (h : RR σ y) : EV (fun s => fX5_image 5000 s) (fun s => fX6_image 5000 s) σ y := by
  obtain ⟨⟨a, ha⟩, h2, h3, h4, h5⟩ := id h
  obtain ⟨σ1, e1, s1, f1⟩ := x_become (fu := 5000) (w := 13) (s := 1) (by omega) (by omega) ha.1 ha.2.1
  obtain ⟨r, e2, g2⟩ := m_copy (a1 := 57) (a2 := 58) (by decide) (mt_up σ1 0 2 1)
  have c57 : mt_up σ1 0 2 1 57 = σ 57 := by rw [pu_up, mt_row_n (by decide), f1 57 (by omega)]
  have e : ∀ c, c ≠ 0 → c ≠ 56 → c ≠ 58 → (c < 13 ∨ 25 ≤ c) → mt_up (mt_row (mt_up σ1 0 2 1) 58 r) 56 3 1 c = σ c := fun c p q s t => by rw [pu_up, mt_row_n q, mt_row_n s, pu_up, mt_row_n p, f1 c (by omega)]
  have e56 : ∀ k, k ≠ 3 → mt_up (mt_row (mt_up σ1 0 2 1) 58 r) 56 3 1 56 k = σ 56 k := fun k p => by rw [pu_up, mt_row_s, pu_upd_n p, mt_row_n (by decide), pu_up, mt_row_n (by decide), f1 56 (by omega)]
  refine ⟨1, mt_up σ1 0 2 1, mt_up (mt_row (mt_up σ1 0 2 1) 58 r) 56 3 1, ?_, ?_, ⟨⟨a, ha.same (fun c p q => e c (by omega) (by omega) (by omega) (by omega)) (fun k _ => by rw [e 57 (by decide) (by decide) (by decide) (by omega)])⟩, ?_, h3.same (e 55 (by decide) (by decide) (by decide) (by omega)) (e 60 (by decide) (by decide) (by decide) (by omega)), h4.same (fun c p q => e c (by omega) (by omega) (by omega) (by omega)) (e 64 (by decide) (by decide) (by decide) (by omega)) (e 65 (by decide) (by decide) (by decide) (by omega)) (e 66 (by decide) (by decide) (by decide) (by omega)), h5.same (e56 7 (by decide)) (by rw [e 44 (by decide) (by decide) (by decide) (by omega)]) (e 45 (by decide) (by decide) (by decide) (by omega)) (e 61 (by decide) (by decide) (by decide) (by omega))⟩⟩
  · simp only [fX5_image, e1, pu_ask, pu_call, pu_bnd, pu_chk, pu_b0, pu_b1, bN_t, bN_f, bN_c, i10, i00, if_true, if_false]
  · simp only [fX6_image, e2, pu_ask, pu_call, pu_bnd, pu_chk, pu_b0, pu_b1, bN_t, bN_f, bN_c, i10, i00, if_true, if_false]
  · have e0 : mt_up (mt_row (mt_up σ1 0 2 1) 58 r) 56 3 1 0 2 = 1 := by rw [pu_up, mt_row_n (by decide), mt_row_n (by decide), pu_up, mt_row_s, pu_upd_s]
    refine ⟨by rw [e0, pu_up, mt_row_s, pu_upd_s], Or.inr ⟨e0, a, ha.1, s1.same ha.1.n8 (fun c p q => ?_), ?_⟩⟩
    · rw [pu_up, mt_row_n (by omega), mt_row_n (by omega), pu_up, mt_row_n (by omega)]
    · rw [pu_up, mt_row_n (by decide), mt_row_s]
      refine ha.2.2.same ha.1.n8 (fun k hk => ?_)
      rw [g2 k hk, c57]
theorem e_undo {σ : mt_St} {y : Nat} (h : RR σ y) : EV (fun s => fX5_undo 5000 s) (fun s => fX6_undo 5000 s) σ y := by
  obtain ⟨⟨a, ha⟩, h2, h3, h4, h5⟩ := id h
  obtain ⟨k0, k1⟩ := h2
  rcases k1 with k1 | ⟨k1, b, wb, xb, mb⟩
  · rw [k1] at k0
    refine EV.find (w := 3) (by decide) h ?_ ?_
    · simp only [fX5_undo, k1, x_find3, pu_ask, pu_call, pu_bnd, pu_chk, pu_b0, pu_b1, bN_t, bN_f, bN_c, i10, i00, if_true, if_false]
    · simp only [fX6_undo, x_fs_n (show 56 ≠ 55 by decide), k0, m_find3, pu_ask, pu_call, pu_bnd, pu_chk, pu_b0, pu_b1, bN_t, bN_f, bN_c, i10, i00, if_true, if_false]
  · rw [k1] at k0
    obtain ⟨σ1, e1, s1, f1⟩ := x_become (fu := 5000) (w := 1) (s := 13) (by omega) (by omega) wb xb
    obtain ⟨r, e2, g2⟩ := m_copy (a1 := 58) (a2 := 57) (by decide) σ1
    have r0 : r 0 = b 0 4 := by rw [g2 0 (by decide), f1 58 (by omega)]; exact mb.1.2.2.2.1
    refine ⟨b 0 4, σ1, mt_row σ1 57 r, ?_, ?_, h.act (a := b) (Nat.le_refl _) ⟨wb, s1.same wb.n8 (fun c p q => mt_row_n (by omega)), ?_⟩ ((frW.loud (Or.inl rfl) f1).tr (loud.row (by omega)))⟩
    · simp only [fX5_undo, k1, e1, pu_ask, pu_call, pu_bnd, pu_chk, pu_b0, pu_b1, bN_t, bN_f, bN_c, i10, i00, if_true, if_false]
      rw [s1.1.2.2.2.1]
    · simp only [fX6_undo, f1 56 (by omega), k0, e2, mt_row_s, r0, pu_ask, pu_call, pu_bnd, pu_chk, pu_b0, pu_b1, bN_t, bN_f, bN_c, i10, i00, if_true, if_false]
    · rw [mt_row_s]
      refine mb.same wb.n8 (fun k hk => ?_)
      rw [g2 k hk, f1 58 (by omega)]
theorem e_forget {σ : mt_St} {y : Nat} (h : RR σ y) : EV (fun s => fX5_forget 5000 s) (fun s => fX6_forget 5000 s) σ y := by
  obtain ⟨⟨a, ha⟩, h2, h3, h4, h5⟩ := id h
  have e : ∀ c, c ≠ 0 → c ≠ 56 → mt_up (mt_up σ 0 2 0) 56 3 0 c = σ c := fun c p q => by rw [pu_up, mt_row_n q, pu_up, mt_row_n p]
  have e56 : ∀ k, k ≠ 3 → mt_up (mt_up σ 0 2 0) 56 3 0 56 k = σ 56 k := fun k p => by rw [pu_up, mt_row_s, pu_upd_n p, pu_up, mt_row_n (by decide)]
  have hR : RR (mt_up (mt_up σ 0 2 0) 56 3 0) y := ⟨⟨a, ha.same (fun c p q => e c (by omega) (by omega)) (fun k _ => by rw [e 57 (by decide) (by decide)])⟩, ⟨rfl, Or.inl rfl⟩, h3.same (e 55 (by decide) (by decide)) (e 60 (by decide) (by decide)), h4.same (fun c p q => e c (by omega) (by omega)) (e 64 (by decide) (by decide)) (e 65 (by decide) (by decide)) (e 66 (by decide) (by decide)), h5.same (e56 7 (by decide)) (by rw [e 44 (by decide) (by decide)]) (e 45 (by decide) (by decide)) (e 61 (by decide) (by decide))⟩
  obtain ⟨k0, k1⟩ := h2
  have c56 : mt_up σ 0 2 0 56 = σ 56 := by rw [pu_up, mt_row_n (by decide)]
  rcases k1 with k1 | ⟨k1, -⟩
  · rw [k1] at k0
    refine ⟨0, mt_up σ 0 2 0, _, ?_, ?_, hR⟩
    · simp only [fX5_forget, bX5_forget_12, k1, pu_ask, pu_call, pu_bnd, pu_chk, pu_b0, pu_b1, bN_t, bN_f, bN_c, i10, i00, if_true, if_false]
    · simp only [fX6_forget, bX6_forget_12, c56, k0, pu_ask, pu_call, pu_bnd, pu_chk, pu_b0, pu_b1, bN_t, bN_f, bN_c, i10, i00, if_true, if_false]
  · rw [k1] at k0
    refine ⟨1, mt_up σ 0 2 0, _, ?_, ?_, hR⟩
    · simp only [fX5_forget, bX5_forget_12, k1, pu_ask, pu_call, pu_bnd, pu_chk, pu_b0, pu_b1, bN_t, bN_f, bN_c, i10, i00, if_true, if_false]
    · simp only [fX6_forget, bX6_forget_12, c56, k0, pu_ask, pu_call, pu_bnd, pu_chk, pu_b0, pu_b1, bN_t, bN_f, bN_c, i10, i00, if_true, if_false]
/-! the findings are told -/
theorem x_statusLoop {σ : mt_St} : ∀ (d i fuel : Nat), 7 = i + d → d < fuel → bX5_status_9 5000 fuel σ (sumF (σ 55) i) (nI i) = some (sumF (σ 55) 7, σ) := by
  intro d
  induction d with
  | zero =>
    intro i fuel hd hf
    obtain ⟨fuel, rfl⟩ : ∃ q, fuel = q + 1 := ⟨fuel - 1, by omega⟩
    have : i = 7 := by omega
    subst this
    unfold bX5_status_9
    rw [if_pos (by decide)]
  | succ d ih =>
    intro i fuel hd hf
    obtain ⟨fuel, rfl⟩ : ∃ q, fuel = q + 1 := ⟨fuel - 1, by omega⟩
    unfold bX5_status_9
    rw [if_neg (show ¬ (7 : Int32) ≤ nI i from nI_ge (b := 7) (by omega) (by decide)), pu_chkP (pu_in (by omega) (by decide)), nI_clamp (by omega), nI_1]
    exact ih (i + 1) fuel (by omega) (by omega)
theorem m_win1 (fu : Nat) (v : Int32) : fX6_within fu v (-1) 6 = some (bN (decide (v = -1) || okR v 6)) := by
  unfold fX6_within bX6_within_14 bX6_within_15 okR bN
  by_cases h : v = -1
  · subst h; decide
  · have hlt : v < -1 ↔ v < 0 := by
      rw [Int32.lt_iff_toInt_lt, Int32.lt_iff_toInt_lt]
      have e1 : (0 : Int32).toInt = 0 := rfl
      have e2 : (-1 : Int32).toInt = -1 := rfl
      have : v.toInt ≠ -1 := fun q => h (by rw [← Int32.toInt_inj, q]; rfl)
      omega
    by_cases h1 : v < 0
    · rw [if_pos (hlt.mpr h1)]; simp [h, h1]; rfl
    · rw [if_neg (fun q => h1 (hlt.mp q))]
      by_cases h2 : 6 < v
      · simp [h, h1, h2]; rfl
      · simp [h, h1, h2]; rfl
theorem e_status {σ : mt_St} {y : Nat} (h : RR σ y) (v : Int32) : EV (fun s => fX5_status 5000 s v) (fun s => fX6_status 5000 s v) σ y := by
  obtain ⟨-, -, ⟨f1, f2⟩, -⟩ := id h
  by_cases h1 : v = -1
  · subst h1
    refine EV.same (r := sumF (σ 55) 7) h ?_ ?_
    · simp only [fX5_status, pu_ask, pu_call, pu_bnd, pu_chk, pu_b0, pu_b1, bN_t, bN_f, bN_c, i10, i00, if_true, if_false]
      exact x_statusLoop 7 0 5000 (by omega) (by omega)
    · simp only [fX6_status, bX6_status_27, m_win1, decide_true, Bool.true_or, pu_ask, pu_call, pu_bnd, pu_chk, pu_b0, pu_b1, bN_t, bN_f, bN_c, i10, i00, if_true, if_false]
      rw [← f2]
      rfl
  cases h2 : okR v 6
  · refine EV.find (w := 0) (by decide) h ?_ ?_
    · simp only [fX5_status, bX5_status_55, h1, x_win, h2, x_find0, pu_ask, pu_call, pu_bnd, pu_chk, pu_b0, pu_b1, bN_t, bN_f, bN_c, i10, i00, if_true, if_false]
    · simp only [fX6_status, bX6_status_27, m_win1, h1, h2, decide_false, Bool.false_or, m_find0, pu_ask, pu_call, pu_bnd, pu_chk, pu_b0, pu_b1, bN_t, bN_f, bN_c, i10, i00, if_true, if_false]
  obtain ⟨k, hk, rfl⟩ := okR_nI (m := 6) (by decide) h2
  refine EV.same (r := σ 55 k) h ?_ ?_
  · simp only [fX5_status, bX5_status_55, h1, x_win, h2, pu_in (show k < 7 by omega) (by decide), nI_clamp (show k < 2 ^ 31 by omega), pu_ask, pu_call, pu_bnd, pu_chk, pu_b0, pu_b1, bN_t, bN_f, bN_c, i10, i00, if_true, if_false]
  · simp only [fX6_status, bX6_status_27, m_win1, h1, h2, decide_false, Bool.false_or, nI_1, pu_in (show k + 1 < 8 by omega) (by decide), nI_clamp (show k + 1 < 2 ^ 31 by omega), f1 k (by omega), pu_ask, pu_call, pu_bnd, pu_chk, pu_b0, pu_b1, bN_t, bN_f, bN_c, i10, i00, if_true, if_false]
/-! spots -/
theorem RA.spot {σ : mt_St} {y i : Nat} {a : AW} {v : Int32} (h : RA σ y a) (hi : i < 10) (hv : v = -1 ∨ ∃ t, t < nA a ∧ v = nI t) : RA (mt_row (mt_row σ 4 (upd (σ 4) i v)) 57 (upd (σ 57) (12 + i) v)) y (mt_row a 3 (upd (a 3) i v)) := by
  obtain ⟨⟨w1, w2, w3, w4, w5, w6, w7, w8⟩, ⟨e0, hl, hs, ht⟩, ⟨f0, gl, gs, gt⟩⟩ := h
  have hn : nA (mt_row a 3 (upd (a 3) i v)) = nA a := by
    unfold nA; rw [mt_row_n (by decide)]
  have hn8 : nA a ≤ 8 := by obtain ⟨n, hn9, e⟩ := w1; rw [nA_n hn9 e]; exact hn9
  have a0 : mt_row a 3 (upd (a 3) i v) 0 = a 0 := mt_row_n (by decide)
  have a1 : mt_row a 3 (upd (a 3) i v) 1 = a 1 := mt_row_n (by decide)
  have a4 : ∀ t, mt_row a 3 (upd (a 3) i v) (4 + t) = a (4 + t) := fun t => mt_row_n (by omega)
  refine ⟨?_, ?_, ?_⟩
  · unfold wfA
    rw [hn, a0, a1, mt_row_s]
    refine ⟨w1, w2, w3, w4, w5, w6, fun k hk => ?_, fun t htn => by rw [a4]; exact w8 t htn⟩
    by_cases hki : k = i
    · subst hki; rw [pu_upd_s]; exact hv
    · rw [pu_upd_n hki]; exact w7 k hk
  · unfold SX
    rw [hn, a0, a1, mt_row_s]
    refine ⟨e0, fun k hk => ?_, fun k hk => ?_, fun t htn => ?_⟩
    · rw [mt_row_n (by decide), mt_row_n (by decide)]; exact hl k hk
    · rw [mt_row_n (by decide), mt_row_s]
      by_cases hki : k = i
      · subst hki; rw [pu_upd_s, pu_upd_s]
      · rw [pu_upd_n hki, pu_upd_n hki]; exact hs k hk
    · rw [a4, mt_row_n (by omega), mt_row_n (by omega)]; exact ht t htn
  · rw [mt_row_s]
    unfold SM
    rw [hn, a0, a1, mt_row_s]
    refine ⟨?_, fun k hk => ?_, fun k hk => ?_, fun t htn => ?_⟩
    · rw [pu_upd_n (by omega), pu_upd_n (by omega), pu_upd_n (by omega), pu_upd_n (by omega), pu_upd_n (by omega), pu_upd_n (by omega)]; exact f0
    · rw [pu_upd_n (by omega)]; exact gl k hk
    · by_cases hki : k = i
      · subst hki; rw [pu_upd_s, pu_upd_s]
      · rw [pu_upd_n (by omega), pu_upd_n hki]; exact gs k hk
    · rw [a4]; intro k8 hk8; rw [← gt t htn k8 hk8]; exact pu_upd_n (by omega)
theorem e_hold {σ : mt_St} {y : Nat} (h : RR σ y) (u v : Int32) : EV (fun s => fX5_hold 5000 s u v) (fun s => fX6_hold 5000 s u v) σ y := by
  obtain ⟨⟨a, ha⟩, -⟩ := id h
  obtain ⟨i7, i1⟩ := ha.isT
  cases h1 : okR u 9
  · refine EV.find (w := 0) (by decide) h ?_ ?_
    · simp only [fX5_hold, bX5_hold_22, x_win, h1, x_find0, pu_ask, pu_call, pu_bnd, pu_chk, pu_b0, pu_b1, bN_t, bN_f, bN_c, i10, i00, if_true, if_false]
    · simp only [fX6_hold, bX6_hold_20, m_isSpot, h1, m_find0, pu_ask, pu_call, pu_bnd, pu_chk, pu_b0, pu_b1, bN_t, bN_f, bN_c, i10, i00, if_true, if_false]
  obtain ⟨i, hi, rfl⟩ := okR_nI (m := 9) (by decide) h1
  have step : (v = -1 ∨ ∃ t, t < nA a ∧ v = nI t) → (fX5_hold 5000 σ (nI i) v = bX5_hold_28 5000 σ (nI i) v) → (∀ σ', σ' 57 = σ 57 → fX6_hold 5000 σ' (nI i) v = bX6_hold_27 5000 σ' (nI i) v) → EV (fun s => fX5_hold 5000 s (nI i) v) (fun s => fX6_hold 5000 s (nI i) v) σ y := by
    intro hv e1 e2
    have c57 : mt_row σ 4 (upd (σ 4) i v) 57 = σ 57 := mt_row_n (by decide)
    refine ⟨1, mt_row σ 4 (upd (σ 4) i v), mt_row (mt_row σ 4 (upd (σ 4) i v)) 57 (upd (σ 57) (12 + i) v), ?_, ?_, h.act (Nat.le_refl _) (ha.spot (by omega) hv) ((loud.row (by omega)).tr (loud.row (by omega)))⟩
    · show fX5_hold 5000 σ (nI i) v = _
      rw [e1]
      unfold bX5_hold_28
      rw [pu_chkP (pu_in (by omega) (by decide)), nI_clamp (by omega), pu_bnd]
      rfl
    · show fX6_hold 5000 _ (nI i) v = _
      rw [e2 _ c57]
      unfold bX6_hold_27
      rw [show (12 : Int32) + nI i = nI (12 + i) from nI_add 12 i, pu_chkP (pu_in (by omega) (by decide)), nI_clamp (by omega), pu_bnd, pu_up, c57]
  by_cases h2 : v = -1
  · refine step (Or.inl h2) ?_ (fun σ' _ => ?_)
    · simp only [fX5_hold, x_win, h1, h2, pu_ask, pu_call, pu_bnd, pu_chk, pu_b0, pu_b1, bN_t, bN_f, bN_c, i10, i00, if_true, if_false]
    · simp only [fX6_hold, m_isSpot, h1, h2, pu_ask, pu_call, pu_bnd, pu_chk, pu_b0, pu_b1, bN_t, bN_f, bN_c, i10, i00, if_true, if_false]
  cases h3 : okR v (nI (nA a) - 1)
  · refine EV.find (w := 0) (by decide) h ?_ ?_
    · simp only [fX5_hold, bX5_hold_22, x_win, h1, h2, x_isTreaty, i7, h3, x_find0, pu_ask, pu_call, pu_bnd, pu_chk, pu_b0, pu_b1, bN_t, bN_f, bN_c, i10, i00, if_true, if_false]
    · simp only [fX6_hold, bX6_hold_20, m_isSpot, h1, h2, m_isTreaty, x_fs_n (show 57 ≠ 55 by decide), i1, h3, m_find0, pu_ask, pu_call, pu_bnd, pu_chk, pu_b0, pu_b1, bN_t, bN_f, bN_c, i10, i00, if_true, if_false]
  · refine step (Or.inr (okT ha.1.n8 h3)) ?_ (fun σ' e57 => ?_)
    · simp only [fX5_hold, x_win, h1, h2, x_isTreaty, i7, h3, pu_ask, pu_call, pu_bnd, pu_chk, pu_b0, pu_b1, bN_t, bN_f, bN_c, i10, i00, if_true, if_false]
    · simp only [fX6_hold, m_isSpot, h1, h2, m_isTreaty, e57, i1, h3, pu_ask, pu_call, pu_bnd, pu_chk, pu_b0, pu_b1, bN_t, bN_f, bN_c, i10, i00, if_true, if_false]
theorem isA_ind {c : Nat} {σ : mt_St} {x1 : Int32} : ∀ (fuel : Nat) (x2 x3 : Int32), bX3_isA_7 5000 c σ fuel x1 x2 x3 = bX3_isA_7 5000 0 (fun _ _ => 0) fuel x1 x2 x3 := by
  intro fuel
  induction fuel with
  | zero => intro x2 x3; rfl
  | succ n ih => intro x2 x3; simp only [bX3_isA_7, bX3_isA_41, ih]
theorem ab_all : ∀ k : Nat, k < 7 → ∀ g : Nat, g < 7 → bX3_isA_7 5000 0 (fun _ _ => 0) 5000 (nI g) (nI k) 0 = fX6_isUnder 5000 (nI k) (nI g) ∧ (fX6_isUnder 5000 (nI k) (nI g) = some 0 ∨ fX6_isUnder 5000 (nI k) (nI g) = some 1) := by
  decide +kernel
theorem isA_both {k g : Nat} (hk : k ≤ 6) (hg : g ≤ 6) : ∃ b : Bool, fX6_isUnder 5000 (nI k) (nI g) = some (bN b) ∧ ∀ (c : Nat) (σ : mt_St), σ c 0 = nI k → fX3_isA 5000 σ c (nI g) = some (bN b) := by
  obtain ⟨e1, e2⟩ := ab_all k (by omega) g (by omega)
  rcases e2 with e2 | e2
  · refine ⟨false, e2, fun c σ e => ?_⟩
    unfold fX3_isA
    rw [isA_ind, e, e1]; exact e2
  · refine ⟨true, e2, fun c σ e => ?_⟩
    unfold fX3_isA
    rw [isA_ind, e, e1]; exact e2
theorem e_as {σ : mt_St} {y : Nat} (h : RR σ y) (u v : Int32) : EV (fun s => fX5_as 5000 s u v) (fun s => fX6_as 5000 s u v) σ y := by
  obtain ⟨⟨a, ha⟩, -⟩ := id h
  obtain ⟨i7, i1⟩ := ha.isT
  have hn8 := ha.1.n8
  cases h1 : okR u 9
  · refine EV.find (w := 0) (by decide) h ?_ ?_
    · simp only [fX5_as, bX5_as_18, x_win, h1, x_find0, pu_ask, pu_call, pu_bnd, pu_chk, pu_b0, pu_b1, bN_t, bN_f, bN_c, i10, i00, if_true, if_false]
    · simp only [fX6_as, bX6_as_14, m_isSpot, h1, m_find0, pu_ask, pu_call, pu_bnd, pu_chk, pu_b0, pu_b1, bN_t, bN_f, bN_c, i10, i00, if_true, if_false]
  cases h2 : okR v 6
  · refine EV.find (w := 0) (by decide) h ?_ ?_
    · simp only [fX5_as, bX5_as_18, x_win, h1, h2, x_find0, pu_ask, pu_call, pu_bnd, pu_chk, pu_b0, pu_b1, bN_t, bN_f, bN_c, i10, i00, if_true, if_false]
    · simp only [fX6_as, bX6_as_14, m_isSpot, m_isKind, h1, h2, m_find0, pu_ask, pu_call, pu_bnd, pu_chk, pu_b0, pu_b1, bN_t, bN_f, bN_c, i10, i00, if_true, if_false]
  obtain ⟨i, hi, rfl⟩ := okR_nI (m := 9) (by decide) h1
  obtain ⟨g, hg, rfl⟩ := okR_nI (m := 6) (by decide) h2
  have x3 : σ (1 + 3) i = a 3 i := ha.2.1.2.2.1 i (by omega)
  have m3 : σ 57 (12 + i) = a 3 i := ha.2.2.2.2.1 i (by omega)
  have e12 : (12 : Int32) + nI i = nI (12 + i) := nI_add 12 i
  rcases ha.1.2.2.2.2.2.2.1 i (by omega) with e | ⟨t, ht, e⟩
  · have hno : okR (-1) (nI (nA a) - 1) = false := by
      cases q : okR (-1) (nI (nA a) - 1)
      · rfl
      · obtain ⟨t, ht, e⟩ := okT ha.1.n8 q
        have : (-1 : Int32) < 0 := by decide
        rw [e] at this
        exact absurd this (nI_pos (by omega))
    refine EV.find (w := 5) (by decide) h ?_ ?_
    · simp only [fX5_as, bX5_as_18, x_win, h1, h2, pu_in (show i < 10 by omega) (by decide), nI_clamp (show i < 2 ^ 31 by omega), x3, e, x_isTreaty, i7, hno, x_find5, pu_ask, pu_call, pu_bnd, pu_chk, pu_b0, pu_b1, bN_t, bN_f, bN_c, i10, i00, if_true, if_false]
    · simp only [fX6_as, bX6_as_14, m_isSpot, m_isKind, h1, h2, e12, pu_in (show 12 + i < 86 by omega) (by decide), nI_clamp (show 12 + i < 2 ^ 31 by omega), x_fs_n (show 57 ≠ 55 by decide), m3, e, m_find5, pu_ask, pu_call, pu_bnd, pu_chk, pu_b0, pu_b1, bN_t, bN_f, bN_c, i10, i00, if_true, if_false]
      rw [if_neg (by decide)]
  · have hok : okR (nI t) (nI (nA a) - 1) = true := okR_Tof ht hn8
    obtain ⟨⟨k, hk, ek⟩, -⟩ := ha.wT ht
    obtain ⟨b, b1, b2⟩ := isA_both hk hg
    have xk : σ (1 + 4 + t) 0 = nI k := (ha.xT ht 0 (by decide)).trans ek
    have mk : gT (σ 57) t 0 = nI k := (ha.mT ht 0 (by decide)).trans ek
    have h0 : (0 : Int32) ≤ nI t := nI_le (a := 0) (by omega) (by omega)
    cases b
    · refine EV.find (w := 2) (by decide) h ?_ ?_
      · simp only [fX5_as, bX5_as_18, bX5_as_73, x_win, h1, h2, pu_in (show i < 10 by omega) (by decide), nI_clamp (show i < 2 ^ 31 by omega), x3, e, x_isTreaty, i7, hok, pu_in (show t < 8 by omega) (by decide), nI_clamp (show t < 2 ^ 31 by omega), show 1 + 2 + 2 + t = 1 + 4 + t by omega, b2 (1 + 4 + t) σ xk, x_find2, pu_ask, pu_call, pu_bnd, pu_chk, pu_b0, pu_b1, bN_t, bN_f, bN_c, i10, i00, if_true, if_false]
      · simp only [fX6_as, bX6_as_14, bX6_as_66, m_isSpot, m_isKind, h1, h2, e12, pu_in (show 12 + i < 86 by omega) (by decide), nI_clamp (show 12 + i < 2 ^ 31 by omega), x_fs_n (show 57 ≠ 55 by decide), m3, e, h0, m_is0 5000 (x_fs σ 2) (show t < 8 by omega), mk, b1, m_find2, pu_ask, pu_call, pu_bnd, pu_chk, pu_b0, pu_b1, bN_t, bN_f, bN_c, i10, i00, if_true, if_false]
    · refine EV.same (r := nI t) h ?_ ?_
      · simp only [fX5_as, bX5_as_18, bX5_as_73, x_win, h1, h2, pu_in (show i < 10 by omega) (by decide), nI_clamp (show i < 2 ^ 31 by omega), x3, e, x_isTreaty, i7, hok, pu_in (show t < 8 by omega) (by decide), nI_clamp (show t < 2 ^ 31 by omega), show 1 + 2 + 2 + t = 1 + 4 + t by omega, b2 (1 + 4 + t) σ xk, pu_ask, pu_call, pu_bnd, pu_chk, pu_b0, pu_b1, bN_t, bN_f, bN_c, i10, i00, if_true, if_false]
      · simp only [fX6_as, bX6_as_14, bX6_as_66, m_isSpot, m_isKind, h1, h2, e12, pu_in (show 12 + i < 86 by omega) (by decide), nI_clamp (show 12 + i < 2 ^ 31 by omega), m3, e, h0, m_is0 5000 σ (show t < 8 by omega), mk, b1, pu_ask, pu_call, pu_bnd, pu_chk, pu_b0, pu_b1, bN_t, bN_f, bN_c, i10, i00, if_true, if_false]
