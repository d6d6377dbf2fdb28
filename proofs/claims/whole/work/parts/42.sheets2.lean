theorem nonneg_nI {v : Int32} (h : (0 : Int32) ≤ v) : ∃ n, n < 2 ^ 31 ∧ v = nI n := by
  obtain ⟨n, hn, e⟩ := nI_of2 (M := 2147483647) (x := v) (n := 2147483647) (by decide) (by rw [Int32.not_lt]; exact h) (by
    rw [Int32.le_iff_toInt_le]
    have := Int32.toInt_lt v
    have e : (2147483647 : Int32).toInt = 2147483647 := by decide
    omega)
  exact ⟨n, by omega, e⟩
theorem e_sheetBad {σ : mt_St} {y : Nat} {u w v : Int32} (h : RR σ y) (hv : ¬ (0 : Int32) ≤ v ∨ ¬ v ≤ 40) : EV (fun t => bX5_sheet_36 5000 t u w v) (fun t => bX6_sheet_36 5000 t u w v) σ y := by
  by_cases h1 : (0 : Int32) ≤ v
  · have h2 : ¬ v ≤ 40 := by rcases hv with q | q; exact absurd h1 q; exact q
    refine EV.find (w := 0) (by decide) h ?_ ?_
    · simp only [bX5_sheet_36, h1, h2, x_find0, pu_ask, pu_call, pu_bnd, pu_chk, pu_b0, pu_b1, bN_t, bN_f, bN_c, i10, i00, if_true, if_false]
    · simp only [bX6_sheet_36, h1, h2, m_find0, pu_ask, pu_call, pu_bnd, pu_chk, pu_b0, pu_b1, bN_t, bN_f, bN_c, i10, i00, if_true, if_false]
  · refine EV.find (w := 6) (by decide) h ?_ ?_
    · simp only [bX5_sheet_36, h1, x_find6, pu_ask, pu_call, pu_bnd, pu_chk, pu_b0, pu_b1, bN_t, bN_f, bN_c, i10, i00, if_true, if_false]
    · simp only [bX6_sheet_36, h1, m_find6, pu_ask, pu_call, pu_bnd, pu_chk, pu_b0, pu_b1, bN_t, bN_f, bN_c, i10, i00, if_true, if_false]
theorem le40 {v : Int32} (h1 : (0 : Int32) ≤ v) (h2 : v ≤ 40) : ∃ n, n ≤ 40 ∧ v = nI n := nI_of2 (n := 40) (M := 40) rfl (by rw [Int32.not_lt]; exact h1) h2
theorem EV.cast {α : Type} {f g f' g' : mt_St → Option (α × mt_St)} {σ : mt_St} {y : Nat} (h : EV f g σ y) (hf : ∀ s, f' s = f s) (hg : ∀ s, g' s = g s) : EV f' g' σ y := by
  obtain ⟨r, s1, s2, e1, e2, e3⟩ := h
  exact ⟨r, s1, s2, (hf _).trans e1, (hg _).trans e2, e3⟩
theorem e_sheet {σ : mt_St} {y : Nat} (h : RR σ y) (u w v : Int32) : EV (fun s => fX5_sheet 5000 s u w v) (fun s => fX6_sheet 5000 s u w v) σ y := by
  cases h1 : okR u 3
  · refine EV.find (w := 0) (by decide) h ?_ ?_
    · simp only [fX5_sheet, bX5_sheet_30, x_isSheet, h1, x_find0, pu_ask, pu_call, pu_bnd, pu_chk, pu_b0, pu_b1, bN_t, bN_f, bN_c, i10, i00, if_true, if_false]
    · simp only [fX6_sheet, bX6_sheet_29, m_isSheet, h1, m_find0, pu_ask, pu_call, pu_bnd, pu_chk, pu_b0, pu_b1, bN_t, bN_f, bN_c, i10, i00, if_true, if_false]
  obtain ⟨s, hs, rfl⟩ := okR_nI (m := 3) (by decide) h1
  have go : (w = 0 ∨ w = 8 ∨ w = 16 ∨ w = 32) → EV (fun t => bX5_sheet_36 5000 t (nI s) w v) (fun t => bX6_sheet_36 5000 t (nI s) w v) σ y := by
    intro hw
    by_cases p : (0 : Int32) ≤ v
    · by_cases q : v ≤ 40
      · obtain ⟨n, hn, rfl⟩ := le40 p q
        exact e_sheetGo h (by omega) hn hw
      · exact e_sheetBad h (Or.inr q)
    · exact e_sheetBad h (Or.inl p)
  by_cases w0 : w = 0
  · refine (go (Or.inl w0)).cast (fun t => ?_) (fun t => ?_)
    · simp only [fX5_sheet, x_isSheet, h1, w0, pu_ask, pu_call, pu_bnd, pu_chk, pu_b0, pu_b1, bN_t, bN_f, bN_c, i10, i00, if_true, if_false]
    · simp only [fX6_sheet, m_isSheet, h1, w0, pu_ask, pu_call, pu_bnd, pu_chk, pu_b0, pu_b1, bN_t, bN_f, bN_c, i10, i00, if_true, if_false]
  by_cases w8 : w = 8
  · refine (go (Or.inr (Or.inl w8))).cast (fun t => ?_) (fun t => ?_)
    · simp only [fX5_sheet, x_isSheet, h1, w0, w8, pu_ask, pu_call, pu_bnd, pu_chk, pu_b0, pu_b1, bN_t, bN_f, bN_c, i10, i00, if_true, if_false]; rfl
    · simp only [fX6_sheet, m_isSheet, h1, w0, w8, pu_ask, pu_call, pu_bnd, pu_chk, pu_b0, pu_b1, bN_t, bN_f, bN_c, i10, i00, if_true, if_false]; rfl
  by_cases w16 : w = 16
  · refine (go (Or.inr (Or.inr (Or.inl w16)))).cast (fun t => ?_) (fun t => ?_)
    · simp only [fX5_sheet, x_isSheet, h1, w0, w8, w16, pu_ask, pu_call, pu_bnd, pu_chk, pu_b0, pu_b1, bN_t, bN_f, bN_c, i10, i00, if_true, if_false]; rfl
    · simp only [fX6_sheet, m_isSheet, h1, w0, w8, w16, pu_ask, pu_call, pu_bnd, pu_chk, pu_b0, pu_b1, bN_t, bN_f, bN_c, i10, i00, if_true, if_false]; rfl
  by_cases w32 : w = 32
  · refine (go (Or.inr (Or.inr (Or.inr w32)))).cast (fun t => ?_) (fun t => ?_)
    · simp only [fX5_sheet, x_isSheet, h1, w0, w8, w16, w32, pu_ask, pu_call, pu_bnd, pu_chk, pu_b0, pu_b1, bN_t, bN_f, bN_c, i10, i00, if_true, if_false]; rfl
    · simp only [fX6_sheet, m_isSheet, h1, w0, w8, w16, w32, pu_ask, pu_call, pu_bnd, pu_chk, pu_b0, pu_b1, bN_t, bN_f, bN_c, i10, i00, if_true, if_false]; rfl
  refine EV.find (w := 0) (by decide) h ?_ ?_
  · simp only [fX5_sheet, bX5_sheet_30, x_isSheet, h1, w0, w8, w16, w32, x_find0, pu_ask, pu_call, pu_bnd, pu_chk, pu_b0, pu_b1, bN_t, bN_f, bN_c, i10, i00, if_true, if_false]
  · simp only [fX6_sheet, bX6_sheet_29, m_isSheet, h1, w0, w8, w16, w32, m_find0, pu_ask, pu_call, pu_bnd, pu_chk, pu_b0, pu_b1, bN_t, bN_f, bN_c, i10, i00, if_true, if_false]
theorem x_missing {fu c : Nat} {σ : mt_St} : fX1_isMissing fu σ c = some (bN (decide (σ c 0 = 0))) := by
  unfold fX1_isMissing bX1_isMissing_12
  by_cases q : σ c 0 = 0
  · rw [if_pos q]; simp [q]; rfl
  · rw [if_neg q]; simp [q]; rfl
def cutW (v w : Int32) : Int32 := if w = 8 then (Int32.toInt8 v).toInt32 else if w = 16 then (Int32.toInt16 v).toInt32 else v
theorem m_cut {fu : Nat} {v w : Int32} : fX6_cutTo fu v w = some (cutW v w) := by
  unfold fX6_cutTo bX6_cutTo_23 cutW
  repeat' split
  all_goals rfl
theorem okS {v : Int32} {n : Nat} (hn : n ≤ 40) (h : okR v (nI n - 1) = true) : ∃ t, t < n ∧ v = nI t := by
  cases n with
  | zero =>
    unfold okR at h
    simp only [decide_eq_true_eq] at h
    have e : nI 0 - 1 = (-1 : Int32) := by decide
    rw [e] at h
    have h1 := Int32.not_lt.mp h.1
    have h2 := Int32.not_lt.mp h.2
    rw [Int32.le_iff_toInt_le] at h1 h2
    have e1 : (0 : Int32).toInt = 0 := rfl
    have e2 : (-1 : Int32).toInt = -1 := rfl
    omega
  | succ n =>
    rw [nI_pred] at h
    obtain ⟨j, hj, e⟩ := okR_nI (by omega) h
    exact ⟨j, by omega, e⟩
theorem x_put {fu c k : Nat} {σ : mt_St} {v : Int32} (hk : k < 40) (h : okR (nI k) (σ c 1 - 1) = true) : fX1_put fu σ c (nI k) v = some ((), mt_row σ (c + 4) (upd (σ (c + 4)) k (cutW v (σ c 0)))) := by
  unfold fX1_put bX1_put_47 bX1_put_48 cutW
  rw [x_win, pu_ask, h, bN_t, if_neg (by decide), pu_chkP (pu_in hk (by decide)), pu_chkP (pu_in hk (by decide)), pu_chkP (pu_in hk (by decide)), nI_clamp (by omega)]
  repeat' split
  all_goals first | rfl | contradiction
/-- one number of one sheet changes on both sides -/
theorem RS.put {σ : mt_St} {s k : Nat} {v : Int32} (h : RS σ) (hs : s < 4) (hk : k < 40) : RS (mt_row (mt_row σ (51 + s) (upd (σ (51 + s)) k v)) 66 (upd (σ 66) (40 * s + k) v)) := by
  intro t ht
  obtain ⟨g1, g2, g3, g4, g5⟩ := h t ht
  have x47 : mt_row (mt_row σ (51 + s) (upd (σ (51 + s)) k v)) 66 (upd (σ 66) (40 * s + k) v) (47 + t) = σ (47 + t) := by rw [mt_row_n (by omega), mt_row_n (by omega)]
  rw [x47]
  refine ⟨?_, ?_, fun j hj => ?_, g4, g5⟩
  · rw [mt_row_n (by decide), mt_row_n (by omega)]; exact g1
  · rw [mt_row_n (by decide), mt_row_n (by omega)]; exact g2
  · rw [mt_row_s, mt_row_n (by omega)]
    by_cases q : t = s
    · subst q
      rw [mt_row_s]
      by_cases q2 : j = k
      · subst q2; rw [pu_upd_s, pu_upd_s]
      · rw [pu_upd_n (by omega), pu_upd_n q2]; exact g3 j hj
    · rw [mt_row_n (by omega), pu_upd_n (by omega)]; exact g3 j hj
theorem e_write {σ : mt_St} {y : Nat} (h : RR σ y) (u w v : Int32) : EV (fun s => fX5_write 5000 s u w v) (fun s => fX6_write 5000 s u w v) σ y := by
  cases h1 : okR u 3
  · refine EV.find (w := 0) (by decide) h ?_ ?_
    · simp only [fX5_write, x_isSheet, h1, x_find0, pu_ask, pu_call, pu_bnd, pu_chk, pu_b0, pu_b1, bN_t, bN_f, bN_c, i10, i00, if_true, if_false]
    · simp only [fX6_write, m_isSheet, h1, m_find0, pu_ask, pu_call, pu_bnd, pu_chk, pu_b0, pu_b1, bN_t, bN_f, bN_c, i10, i00, if_true, if_false]
  obtain ⟨s, hs, rfl⟩ := okR_nI (m := 3) (by decide) h1
  obtain ⟨g1, g2, g3, g4, n, hn, en⟩ := h.2.2.2.1 s (by omega)
  have e47 : 46 + 1 + s = 47 + s := by omega
  have p4 := pu_in (show s < 4 by omega) (by decide)
  have c4 := nI_clamp (show s < 2 ^ 31 by omega)
  by_cases h2 : σ (47 + s) 0 = 0
  · refine EV.find (w := 5) (by decide) h ?_ ?_
    · simp only [fX5_write, x_isSheet, h1, p4, c4, e47, x_missing, h2, decide_true, x_find5, pu_ask, pu_call, pu_bnd, pu_chk, pu_b0, pu_b1, bN_t, bN_f, bN_c, i10, i00, if_true, if_false]
    · rw [h2] at g1
      simp only [fX6_write, m_isSheet, h1, p4, c4, x_fs_n (show 64 ≠ 55 by decide), g1, m_find5, pu_ask, pu_call, pu_bnd, pu_chk, pu_b0, pu_b1, bN_t, bN_f, bN_c, i10, i00, if_true, if_false]
  have m2 : ¬ σ 64 s = 0 := by rw [g1]; exact h2
  cases h3 : okR w (nI n - 1)
  · refine EV.find (w := 0) (by decide) h ?_ ?_
    · simp only [fX5_write, x_isSheet, h1, p4, c4, e47, x_missing, h2, decide_false, x_win, en, h3, x_find0, pu_ask, pu_call, pu_bnd, pu_chk, pu_b0, pu_b1, bN_t, bN_f, bN_c, i10, i00, if_true, if_false]
    · simp only [fX6_write, m_isSheet, h1, p4, c4, x_fs_n (show 64 ≠ 55 by decide), x_fs_n (show 65 ≠ 55 by decide), m2, m_win, g2, en, h3, m_find0, pu_ask, pu_call, pu_bnd, pu_chk, pu_b0, pu_b1, bN_t, bN_f, bN_c, i10, i00, if_true, if_false]
  obtain ⟨k, hk, rfl⟩ := okS hn h3
  have c65 : mt_row σ (47 + s + 4) (upd (σ (47 + s + 4)) k (cutW v (σ (47 + s) 0))) 65 = σ 65 := mt_row_n (by omega)
  have c64 : mt_row σ (47 + s + 4) (upd (σ (47 + s + 4)) k (cutW v (σ (47 + s) 0))) 64 = σ 64 := mt_row_n (by omega)
  have c66 : mt_row σ (47 + s + 4) (upd (σ (47 + s + 4)) k (cutW v (σ (47 + s) 0))) 66 = σ 66 := mt_row_n (by omega)
  refine ⟨1, mt_row σ (47 + s + 4) (upd (σ (47 + s + 4)) k (cutW v (σ (47 + s) 0))), mt_row (mt_row σ (47 + s + 4) (upd (σ (47 + s + 4)) k (cutW v (σ (47 + s) 0)))) 66 (upd (σ 66) (40 * s + k) (cutW v (σ (47 + s) 0))), ?_, ?_, h.sheets ?_ ?_⟩
  · simp only [fX5_write, x_isSheet, h1, p4, c4, e47, x_missing, h2, decide_false, x_win, en, h3, x_put (c := 47 + s) (σ := σ) (v := v) (show k < 40 by omega) (by rw [en]; exact h3), pu_ask, pu_call, pu_bnd, pu_chk, pu_b0, pu_b1, bN_t, bN_f, bN_c, i10, i00, if_true, if_false]
  · simp only [fX6_write, m_isSheet, h1, p4, c4, c64, c65, m2, m_win, g2, en, h3, m_cut, g1, m_i40, pu_in (show 40 * s + k < 160 by omega) (by decide), nI_clamp (show 40 * s + k < 2 ^ 31 by omega), pu_up, c66, pu_ask, pu_call, pu_bnd, pu_chk, pu_b0, pu_b1, bN_t, bN_f, bN_c, i10, i00, if_true, if_false]
    rw [if_neg h2]
  · have := RS.put (v := cutW v (σ (47 + s) 0)) h.2.2.2.1 (show s < 4 by omega) (show k < 40 by omega)
    rw [show 51 + s = 47 + s + 4 by omega] at this
    exact this
  · intro c p q1 q2 q3 q4
    rw [mt_row_n q3, mt_row_n (by omega)]
