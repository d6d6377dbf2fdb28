theorem x_find0 (fu : Nat) (σ : mt_St) : fX5_finding fu σ 0 = some (-1000001 - nI 0, x_fs σ 0) := x_find fu σ (by decide)
theorem m_find0 (fu : Nat) (σ : mt_St) : fX6_finding fu σ (-1000001) = some (-1000001 - nI 0, m_fs σ 0) := by
  rw [show (-1000001 : Int32) = -1000001 - nI 0 from by decide]; exact m_find fu σ (by decide)
theorem x_find1 (fu : Nat) (σ : mt_St) : fX5_finding fu σ 1 = some (-1000001 - nI 1, x_fs σ 1) := x_find fu σ (by decide)
theorem m_find1 (fu : Nat) (σ : mt_St) : fX6_finding fu σ (-1000002) = some (-1000001 - nI 1, m_fs σ 1) := by
  rw [show (-1000002 : Int32) = -1000001 - nI 1 from by decide]; exact m_find fu σ (by decide)
theorem x_find2 (fu : Nat) (σ : mt_St) : fX5_finding fu σ 2 = some (-1000001 - nI 2, x_fs σ 2) := x_find fu σ (by decide)
theorem m_find2 (fu : Nat) (σ : mt_St) : fX6_finding fu σ (-1000003) = some (-1000001 - nI 2, m_fs σ 2) := by
  rw [show (-1000003 : Int32) = -1000001 - nI 2 from by decide]; exact m_find fu σ (by decide)
theorem x_find3 (fu : Nat) (σ : mt_St) : fX5_finding fu σ 3 = some (-1000001 - nI 3, x_fs σ 3) := x_find fu σ (by decide)
theorem m_find3 (fu : Nat) (σ : mt_St) : fX6_finding fu σ (-1000004) = some (-1000001 - nI 3, m_fs σ 3) := by
  rw [show (-1000004 : Int32) = -1000001 - nI 3 from by decide]; exact m_find fu σ (by decide)
theorem x_find4 (fu : Nat) (σ : mt_St) : fX5_finding fu σ 4 = some (-1000001 - nI 4, x_fs σ 4) := x_find fu σ (by decide)
theorem m_find4 (fu : Nat) (σ : mt_St) : fX6_finding fu σ (-1000005) = some (-1000001 - nI 4, m_fs σ 4) := by
  rw [show (-1000005 : Int32) = -1000001 - nI 4 from by decide]; exact m_find fu σ (by decide)
theorem x_find5 (fu : Nat) (σ : mt_St) : fX5_finding fu σ 5 = some (-1000001 - nI 5, x_fs σ 5) := x_find fu σ (by decide)
theorem m_find5 (fu : Nat) (σ : mt_St) : fX6_finding fu σ (-1000006) = some (-1000001 - nI 5, m_fs σ 5) := by
  rw [show (-1000006 : Int32) = -1000001 - nI 5 from by decide]; exact m_find fu σ (by decide)
theorem x_find6 (fu : Nat) (σ : mt_St) : fX5_finding fu σ 6 = some (-1000001 - nI 6, x_fs σ 6) := x_find fu σ (by decide)
theorem m_find6 (fu : Nat) (σ : mt_St) : fX6_finding fu σ (-1000007) = some (-1000001 - nI 6, m_fs σ 6) := by
  rw [show (-1000007 : Int32) = -1000001 - nI 6 from by decide]; exact m_find fu σ (by decide)
def loud (σ σ' : mt_St) : Prop := (∀ c, c = 0 ∨ (13 ≤ c ∧ c ≤ 24) ∨ 45 ≤ c → c ≠ 56 → c ≠ 57 → c ≠ 59 → c ≠ 63 → c ≠ 67 → σ' c = σ c) ∧ σ' 44 1 = σ 44 1 ∧ σ' 56 3 = σ 56 3 ∧ σ' 56 7 = σ 56 7
theorem loud.rf {σ : mt_St} : loud σ σ := ⟨fun _ _ _ _ _ _ _ => rfl, rfl, rfl, rfl⟩
theorem loud.tr {σ σ' σ'' : mt_St} (h : loud σ σ') (h2 : loud σ' σ'') : loud σ σ'' := ⟨fun c a b d e f g => (h2.1 c a b d e f g).trans (h.1 c a b d e f g), h2.2.1.trans h.2.1, h2.2.2.1.trans h.2.2.1, h2.2.2.2.trans h.2.2.2⟩
theorem quiet.loud {σ σ' : mt_St} (h : quiet σ σ') : loud σ σ' := ⟨fun c a => h.1 c (by omega), h.2.1, h.2.2.1, h.2.2.2.1⟩
theorem loud.row {σ : mt_St} {c : Nat} {f : Nat → Int32} (hc : (1 ≤ c ∧ c ≤ 12) ∨ (25 ≤ c ∧ c ≤ 43) ∨ c = 57 ∨ c = 59 ∨ c = 63 ∨ c = 67) : loud σ (mt_row σ c f) := ⟨fun c' a b d e f g => mt_row_n (by omega), by rw [mt_row_n (by omega)], by rw [mt_row_n (by omega)], by rw [mt_row_n (by omega)]⟩
theorem frW.loud {w : Nat} {σ σ' : mt_St} (hw : w = 1 ∨ w = 25) (h : frW w σ σ') : loud σ σ' := ⟨fun c a b d e f g => h c (by omega), by rw [h 44 (by omega)], by rw [h 56 (by omega)], by rw [h 56 (by omega)]⟩
theorem frM.loud {σ σ' : mt_St} (h : frM σ σ') : loud σ σ' := ⟨fun c a b d e f g => h.1 c d b, by rw [h.1 44 (by decide) (by decide)], h.2 3 (by decide), h.2 7 (by decide)⟩
theorem RR.act {σ σ' : mt_St} {y y' : Nat} {a : AW} (h : RR σ y) (hy : y ≤ y') (ha : RA σ' y' a) (q : loud σ σ') : RR σ' y' := by
  obtain ⟨-, h2, h3, h4, h5⟩ := h
  obtain ⟨qc, q1, q2, q3⟩ := q
  have qc' : ∀ c, (c = 0 ∨ (13 ≤ c ∧ c ≤ 24) ∨ 45 ≤ c) ∧ c ≠ 56 ∧ c ≠ 57 ∧ c ≠ 59 ∧ c ≠ 63 ∧ c ≠ 67 → σ' c = σ c := fun c hc => qc c hc.1 hc.2.1 hc.2.2.1 hc.2.2.2.1 hc.2.2.2.2.1 hc.2.2.2.2.2
  exact ⟨⟨a, ha⟩, (h2.mono hy).same (fun c a b => qc' c (by omega)) (qc' 58 (by omega)) (qc' 0 (by omega)) q2, h3.same (qc' 55 (by omega)) (qc' 60 (by omega)), h4.same (fun c a b => qc' c (by omega)) (qc' 64 (by omega)) (qc' 65 (by omega)) (qc' 66 (by omega)), h5.same q3 q1 (qc' 45 (by omega)) (qc' 61 (by omega))⟩
theorem EV.quiet {α : Type} {f g : mt_St → Option (α × mt_St)} {σ σ1 σ2 : mt_St} {y : Nat} {r : α} (h : RR σ y) (hf : f σ = some (r, σ1)) (hg : g σ1 = some (r, σ2)) (q1 : quiet σ σ1) (q2 : quiet σ1 σ2) : EV f g σ y := ⟨r, σ1, σ2, hf, hg, h.quiet (q1.tr q2)⟩
theorem EV.same {α : Type} {f g : mt_St → Option (α × mt_St)} {σ : mt_St} {y : Nat} {r : α} (h : RR σ y) (hf : f σ = some (r, σ)) (hg : g σ = some (r, σ)) : EV f g σ y := ⟨r, σ, σ, hf, hg, h⟩
theorem m_become {fu i : Nat} {σ : mt_St} {v : Int32} (hi : i < 86) : fX6_become fu σ (nI i) v = some (σ 57 i, mt_row σ 57 (upd (σ 57) i v)) := by
  unfold fX6_become
  rw [pu_chkP (pu_in hi (by decide)), pu_chkP (pu_in hi (by decide)), pu_bnd, nI_clamp (by omega)]
  rfl
theorem m_isTreaty (fu : Nat) (σ : mt_St) (v : Int32) : fX6_isTreaty fu σ v = some (bN (okR v (σ 57 1 - 1))) := by
  unfold fX6_isTreaty
  rw [m_win, pu_ask, bN_c, pu_chk]
theorem x_isTreaty (fu : Nat) (σ : mt_St) (v : Int32) : fX5_isTreaty fu σ v = some (bN (okR v (σ 1 7 - 1))) := by
  unfold fX5_isTreaty
  rw [x_win, pu_ask, bN_c, pu_chk]
theorem m_isFigures (fu : Nat) (v : Int32) : fX6_isFigures fu v = some (bN (okR v 4095)) := by
  unfold fX6_isFigures
  rw [m_win, pu_ask, bN_c, pu_chk]
theorem m_isPlace (fu : Nat) (v : Int32) : fX6_isPlace fu v = some (bN (okR v 5)) := by
  unfold fX6_isPlace
  rw [m_win, pu_ask, bN_c, pu_chk]
theorem m_isSpot (fu : Nat) (v : Int32) : fX6_isSpot fu v = some (bN (okR v 9)) := by
  unfold fX6_isSpot
  rw [m_win, pu_ask, bN_c, pu_chk]
theorem m_isKind (fu : Nat) (v : Int32) : fX6_isKind fu v = some (bN (okR v 6)) := by
  unfold fX6_isKind
  rw [m_win, pu_ask, bN_c, pu_chk]
theorem m_isPower (fu : Nat) (v : Int32) : fX6_isPower fu v = some (bN (okR v 5)) := by
  unfold fX6_isPower
  rw [m_win, pu_ask, bN_c, pu_chk]
theorem m_isSheet (fu : Nat) (v : Int32) : fX6_isSheet fu v = some (bN (okR v 3)) := by
  unfold fX6_isSheet
  rw [m_win, pu_ask, bN_c, pu_chk]
theorem m_isThought (fu : Nat) (v : Int32) : fX6_isThought fu v = some (bN (okR v 60)) := by
  unfold fX6_isThought
  rw [m_win, pu_ask, bN_c, pu_chk]
/-- one number of the world changes: yard (0), up (1), z (5) -/
theorem RA.num {σ : mt_St} {y k m : Nat} {a : AW} {v : Int32} (h : RA σ y a) (hk : (k = 0 ∧ m = 4 ∧ ps_S v) ∨ (k = 1 ∧ m = 5 ∧ ps_S v) ∨ (k = 5 ∧ m = 2)) : RA (mt_row (mt_row σ 1 (upd (σ 1) k v)) 57 (upd (σ 57) m v)) y (mt_row a 0 (upd (a 0) k v)) := by
  obtain ⟨⟨w1, w2, w3, w4, w5, w6, w7, w8⟩, ⟨⟨e0, e1, e3, e4, e5, e7⟩, hl, hs, ht⟩, ⟨⟨f0, f1, f3, f4, f5, f7⟩, gl, gs, gt⟩⟩ := h
  have hn : nA (mt_row a 0 (upd (a 0) k v)) = nA a := by
    unfold nA; rw [mt_row_s, pu_upd_n (by omega)]
  have hn8 : nA a ≤ 8 := by obtain ⟨n, hn9, e⟩ := w1; rw [nA_n hn9 e]; exact hn9
  refine ⟨?_, ?_, ?_⟩
  · refine ⟨?_, ?_, ?_, ?_, ?_, ?_, ?_, ?_⟩
    · rw [mt_row_s, pu_upd_n (by omega)]; exact w1
    · rw [mt_row_s]; rcases hk with ⟨rfl, -, hv⟩ | ⟨rfl, -, hv⟩ | ⟨rfl, -⟩
      · rw [pu_upd_s]; exact hv
      · rw [pu_upd_n (by decide)]; exact w2
      · rw [pu_upd_n (by decide)]; exact w2
    · rw [mt_row_s]; rcases hk with ⟨rfl, -, hv⟩ | ⟨rfl, -, hv⟩ | ⟨rfl, -⟩
      · rw [pu_upd_n (by decide)]; exact w3
      · rw [pu_upd_s]; exact hv
      · rw [pu_upd_n (by decide)]; exact w3
    · rw [mt_row_s, pu_upd_n (by omega)]; exact w4
    · rw [mt_row_s, pu_upd_n (by omega)]; exact w5
    · rw [mt_row_n (by decide)]; exact w6
    · rw [mt_row_n (by decide), hn]; exact w7
    · intro t htn; rw [hn] at htn; rw [mt_row_n (by omega)]; exact w8 t htn
  · refine ⟨?_, ?_, ?_, ?_⟩
    · rw [mt_row_n (by decide), mt_row_s, mt_row_s]
      rcases hk with ⟨rfl, -⟩ | ⟨rfl, -⟩ | ⟨rfl, -⟩
      · exact ⟨rfl, e1, e3, e4, e5, e7⟩
      · exact ⟨e0, rfl, e3, e4, e5, e7⟩
      · exact ⟨e0, e1, e3, e4, rfl, e7⟩
    · intro i hi; rw [mt_row_n (by decide), mt_row_n (by decide), mt_row_n (by decide)]; exact hl i hi
    · intro i hi; rw [mt_row_n (by decide), mt_row_n (by decide), mt_row_n (by decide)]; exact hs i hi
    · intro t htn; rw [hn] at htn; rw [mt_row_n (by omega), mt_row_n (by omega), mt_row_n (by omega)]; exact ht t htn
  · rw [mt_row_s]
    refine ⟨?_, ?_, ?_, ?_⟩
    · rw [mt_row_s]
      rcases hk with ⟨rfl, rfl, -⟩ | ⟨rfl, rfl, -⟩ | ⟨rfl, rfl⟩
      · exact ⟨rfl, f1, f3, f4, f5, f7⟩
      · exact ⟨f0, rfl, f3, f4, f5, f7⟩
      · exact ⟨f0, f1, f3, f4, rfl, f7⟩
    · intro i hi; rw [mt_row_n (by decide), pu_upd_n (by omega)]; exact gl i hi
    · intro i hi; rw [mt_row_n (by decide), pu_upd_n (by omega)]; exact gs i hi
    · intro t htn k8 hk8; rw [hn] at htn; rw [mt_row_n (by omega), ← gt t htn k8 hk8]; exact pu_upd_n (by omega)
theorem ok4095 {v : Int32} (h : okR v 4095 = true) : ∃ j, j < 4096 ∧ v = nI j := by
  rw [show (4095 : Int32) = nI 4095 by decide] at h
  obtain ⟨j, hj, e⟩ := okR_nI (by decide) h
  exact ⟨j, by omega, e⟩
theorem x_figOf {σ : mt_St} {fu j : Nat} (hj : j ≤ 1) : fX5_figuresOf fu σ (nI j) = some (σ 1 j) := by
  unfold fX5_figuresOf bX5_figuresOf_21
  rcases (show j = 0 ∨ j = 1 by omega) with rfl | rfl <;> rfl
theorem e_set {σ : mt_St} {y : Nat} (h : RR σ y) (u v : Int32) : EV (fun s => fX5_set 5000 s u v) (fun s => fX6_set 5000 s u v) σ y := by
  cases h1 : okR u 1
  · refine EV.find (w := 0) (by decide) h ?_ ?_
    · simp only [fX5_set, bX5_set_18, x_win, h1, x_find0, pu_ask, pu_call, pu_bnd, pu_chk, pu_b0, pu_b1, bN_t, bN_f, bN_c, i10, i00, if_true, if_false]
    · simp only [fX6_set, bX6_set_33, bX6_set_27, m_win, m_isFigures, h1, m_find0, pu_ask, pu_call, pu_bnd, pu_chk, pu_b0, pu_b1, bN_t, bN_f, bN_c, i10, i00, if_true, if_false]
  cases h2 : okR v 4095
  · refine EV.find (w := 0) (by decide) h ?_ ?_
    · simp only [fX5_set, bX5_set_18, x_win, h1, h2, x_find0, pu_ask, pu_call, pu_bnd, pu_chk, pu_b0, pu_b1, bN_t, bN_f, bN_c, i10, i00, if_true, if_false]
    · simp only [fX6_set, bX6_set_33, bX6_set_27, m_win, m_isFigures, h1, h2, m_find0, pu_ask, pu_call, pu_bnd, pu_chk, pu_b0, pu_b1, bN_t, bN_f, bN_c, i10, i00, if_true, if_false]
  obtain ⟨j, hj, rfl⟩ := okR_nI (m := 1) (by decide) h1
  obtain ⟨k, hk, rfl⟩ := ok4095 h2
  obtain ⟨⟨a, ha⟩, -⟩ := id h
  have hv : ps_S (nI k) := ⟨k, hk, rfl⟩
  rcases (show j = 0 ∨ j = 1 by omega) with rfl | rfl
  · refine ⟨σ 1 0, mt_row σ 1 (upd (σ 1) 0 (nI k)), mt_row (mt_row σ 1 (upd (σ 1) 0 (nI k))) 57 (upd (σ 57) 4 (nI k)), ?_, ?_, h.act (Nat.le_refl _) (ha.num (Or.inl ⟨rfl, rfl, hv⟩)) ((loud.row (by omega)).tr (loud.row (by omega)))⟩
    · simp only [fX5_set, bX5_set_53, bX5_set_18, x_figOf (Nat.zero_le 1), x_win, h1, h2, pu_ask, pu_call, pu_bnd, pu_chk, pu_b0, pu_b1, bN_t, bN_f, bN_c, i10, i00, if_true, if_false]
      rw [if_pos (show nI 0 = 0 by decide)]; rfl
    · simp only [fX6_set, bX6_set_33, bX6_set_27, m_win, m_isFigures, h1, h2, pu_ask, pu_call, pu_bnd, pu_chk, pu_b0, pu_b1, bN_t, bN_f, bN_c, i10, i00, if_true, if_false]
      rw [show (4 : Int32) + nI 0 = nI 4 from by decide, m_become (by decide), pu_call, mt_row_n (show (57 : Nat) ≠ 1 by decide), ha.2.1.1.1, ha.2.2.1.1]
  · refine ⟨σ 1 1, mt_row σ 1 (upd (σ 1) 1 (nI k)), mt_row (mt_row σ 1 (upd (σ 1) 1 (nI k))) 57 (upd (σ 57) 5 (nI k)), ?_, ?_, h.act (Nat.le_refl _) (ha.num (Or.inr (Or.inl ⟨rfl, rfl, hv⟩))) ((loud.row (by omega)).tr (loud.row (by omega)))⟩
    · simp only [fX5_set, bX5_set_53, bX5_set_18, x_figOf (Nat.le_refl 1), x_win, h1, h2, pu_ask, pu_call, pu_bnd, pu_chk, pu_b0, pu_b1, bN_t, bN_f, bN_c, i10, i00, if_true, if_false]
      rw [if_neg (show ¬ nI 1 = 0 by decide)]; rfl
    · simp only [fX6_set, bX6_set_33, bX6_set_27, m_win, m_isFigures, h1, h2, pu_ask, pu_call, pu_bnd, pu_chk, pu_b0, pu_b1, bN_t, bN_f, bN_c, i10, i00, if_true, if_false]
      rw [show (4 : Int32) + nI 1 = nI 5 from by decide, m_become (by decide), pu_call, mt_row_n (show (57 : Nat) ≠ 1 by decide), ha.2.1.1.2.1, ha.2.2.1.2.1]
theorem e_seen {σ : mt_St} {y : Nat} (h : RR σ y) (u : Int32) : EV (fun s => fX5_seen 5000 s u) (fun s => fX6_seen 5000 s u) σ y := by
  cases h1 : okR u 1
  · refine EV.find (w := 0) (by decide) h ?_ ?_
    · simp only [fX5_seen, bX5_seen_21, x_win, h1, x_find0, pu_ask, pu_call, pu_bnd, pu_chk, pu_b0, pu_b1, bN_t, bN_f, bN_c, i10, i00, if_true, if_false]
    · simp only [fX6_seen, bX6_seen_26, m_win, h1, m_find0, pu_ask, pu_call, pu_bnd, pu_chk, pu_b0, pu_b1, bN_t, bN_f, bN_c, i10, i00, if_true, if_false]
  obtain ⟨j, hj, rfl⟩ := okR_nI (m := 1) (by decide) h1
  obtain ⟨⟨a, ha⟩, -⟩ := id h
  refine EV.same (r := σ 1 j) h ?_ ?_
  · simp only [fX5_seen, bX5_seen_21, x_win, h1, x_figOf hj, pu_ask, pu_call, pu_bnd, pu_chk, pu_b0, pu_b1, bN_t, bN_f, bN_c, i10, i00, if_true, if_false]
  · simp only [fX6_seen, bX6_seen_26, m_win, h1, pu_ask, pu_call, pu_bnd, pu_chk, pu_b0, pu_b1, bN_t, bN_f, bN_c, i10, i00, if_true, if_false]
    rw [show (4 : Int32) + nI j = nI (4 + j) from nI_add 4 j, pu_chkP (pu_in (by omega) (by decide)), nI_clamp (by omega)]
    rcases (show j = 0 ∨ j = 1 by omega) with rfl | rfl
    · rw [ha.2.1.1.1, ha.2.2.1.1]
    · rw [ha.2.1.1.2.1, ha.2.2.1.2.1]
theorem RA.list {σ : mt_St} {y i e : Nat} {a : AW} (h : RA σ y a) (hi : i < 6) (he : e ≤ 12) : RA (mt_row (mt_row σ 2 (upd (σ 2) i (nI e))) 57 (upd (σ 57) (6 + i) (nI e))) y (mt_row a 1 (upd (a 1) i (nI e))) := by
  obtain ⟨⟨w1, w2, w3, w4, w5, w6, w7, w8⟩, ⟨e0, hl, hs, ht⟩, ⟨f0, gl, gs, gt⟩⟩ := h
  have hn : nA (mt_row a 1 (upd (a 1) i (nI e))) = nA a := by
    unfold nA; rw [mt_row_n (by decide)]
  have hn8 : nA a ≤ 8 := by obtain ⟨n, hn9, e⟩ := w1; rw [nA_n hn9 e]; exact hn9
  have a0 : mt_row a 1 (upd (a 1) i (nI e)) 0 = a 0 := mt_row_n (by decide)
  have a3 : mt_row a 1 (upd (a 1) i (nI e)) 3 = a 3 := mt_row_n (by decide)
  have a4 : ∀ t, mt_row a 1 (upd (a 1) i (nI e)) (4 + t) = a (4 + t) := fun t => mt_row_n (by omega)
  refine ⟨?_, ?_, ?_⟩
  · unfold wfA
    rw [hn, a0, a3, mt_row_s]
    refine ⟨w1, w2, w3, w4, w5, fun k hk => ?_, w7, fun t htn => by rw [a4]; exact w8 t htn⟩
    by_cases hki : k = i
    · subst hki; rw [pu_upd_s]; exact ⟨e, he, rfl⟩
    · rw [pu_upd_n hki]; exact w6 k hk
  · unfold SX
    rw [hn, a0, a3, mt_row_s]
    refine ⟨e0, fun k hk => ?_, fun k hk => ?_, fun t htn => ?_⟩
    · rw [mt_row_n (by decide), mt_row_s]
      by_cases hki : k = i
      · subst hki; rw [pu_upd_s, pu_upd_s]
      · rw [pu_upd_n hki, pu_upd_n hki]; exact hl k hk
    · rw [mt_row_n (by decide), mt_row_n (by decide)]; exact hs k hk
    · rw [a4, mt_row_n (by omega), mt_row_n (by omega)]; exact ht t htn
  · rw [mt_row_s]
    unfold SM
    rw [hn, a0, a3, mt_row_s]
    refine ⟨?_, fun k hk => ?_, fun k hk => ?_, fun t htn => ?_⟩
    · rw [pu_upd_n (by omega), pu_upd_n (by omega), pu_upd_n (by omega), pu_upd_n (by omega), pu_upd_n (by omega), pu_upd_n (by omega)]; exact f0
    · by_cases hki : k = i
      · subst hki; rw [pu_upd_s, pu_upd_s]
      · rw [pu_upd_n (by omega), pu_upd_n hki]; exact gl k hk
    · rw [pu_upd_n (by omega)]; exact gs k hk
    · rw [a4]; intro k8 hk8; rw [← gt t htn k8 hk8]; exact pu_upd_n (by omega)
theorem e_event {σ : mt_St} {y : Nat} (h : RR σ y) (u v : Int32) : EV (fun s => fX5_event 5000 s u v) (fun s => fX6_event 5000 s u v) σ y := by
  cases h1 : okR u 5
  · refine EV.find (w := 0) (by decide) h ?_ ?_
    · simp only [fX5_event, bX5_event_17, x_win, h1, x_find0, pu_ask, pu_call, pu_bnd, pu_chk, pu_b0, pu_b1, bN_t, bN_f, bN_c, i10, i00, if_true, if_false]
    · simp only [fX6_event, bX6_event_35, bX6_event_29, m_isPlace, h1, m_find0, pu_ask, pu_call, pu_bnd, pu_chk, pu_b0, pu_b1, bN_t, bN_f, bN_c, i10, i00, if_true, if_false]
  cases h2 : okR v 12
  · refine EV.find (w := 0) (by decide) h ?_ ?_
    · simp only [fX5_event, bX5_event_17, x_win, h1, h2, x_find0, pu_ask, pu_call, pu_bnd, pu_chk, pu_b0, pu_b1, bN_t, bN_f, bN_c, i10, i00, if_true, if_false]
    · simp only [fX6_event, bX6_event_35, bX6_event_29, m_isPlace, m_win, h1, h2, m_find0, pu_ask, pu_call, pu_bnd, pu_chk, pu_b0, pu_b1, bN_t, bN_f, bN_c, i10, i00, if_true, if_false]
  obtain ⟨i, hi, rfl⟩ := okR_nI (m := 5) (by decide) h1
  obtain ⟨e, he, rfl⟩ := okR_nI (m := 12) (by decide) h2
  obtain ⟨⟨a, ha⟩, -⟩ := id h
  refine ⟨σ 2 i, mt_row σ 2 (upd (σ 2) i (nI e)), mt_row (mt_row σ 2 (upd (σ 2) i (nI e))) 57 (upd (σ 57) (6 + i) (nI e)), ?_, ?_, h.act (Nat.le_refl _) (ha.list (by omega) he) ((loud.row (by omega)).tr (loud.row (by omega)))⟩
  · simp only [fX5_event, bX5_event_17, x_win, h1, h2, pu_in (show i < 6 by omega) (by decide), nI_clamp (show i < 2 ^ 31 by omega), pu_ask, pu_call, pu_bnd, pu_chk, pu_b0, pu_b1, bN_t, bN_f, bN_c, i10, i00, if_true, if_false]
    rfl
  · simp only [fX6_event, bX6_event_35, bX6_event_29, m_isPlace, m_win, h1, h2, pu_ask, pu_call, pu_bnd, pu_chk, pu_b0, pu_b1, bN_t, bN_f, bN_c, i10, i00, if_true, if_false]
    rw [show (6 : Int32) + nI i = nI (6 + i) from nI_add 6 i, m_become (by omega), pu_call, mt_row_n (show (57 : Nat) ≠ 2 by decide), ha.2.1.2.1 i (by omega), ha.2.2.2.1 i (by omega)]
theorem e_listed {σ : mt_St} {y : Nat} (h : RR σ y) (u : Int32) : EV (fun s => fX5_listed 5000 s u) (fun s => fX6_listed 5000 s u) σ y := by
  cases h1 : okR u 5
  · refine EV.find (w := 0) (by decide) h ?_ ?_
    · simp only [fX5_listed, bX5_listed_25, x_win, h1, x_find0, pu_ask, pu_call, pu_bnd, pu_chk, pu_b0, pu_b1, bN_t, bN_f, bN_c, i10, i00, if_true, if_false]
    · simp only [fX6_listed, bX6_listed_25, m_isPlace, h1, m_find0, pu_ask, pu_call, pu_bnd, pu_chk, pu_b0, pu_b1, bN_t, bN_f, bN_c, i10, i00, if_true, if_false]
  obtain ⟨i, hi, rfl⟩ := okR_nI (m := 5) (by decide) h1
  obtain ⟨⟨a, ha⟩, -⟩ := id h
  refine EV.same (r := a 1 i) h ?_ ?_
  · simp only [fX5_listed, bX5_listed_25, x_win, h1, pu_in (show i < 6 by omega) (by decide), nI_clamp (show i < 2 ^ 31 by omega), ha.2.1.2.1 i (by omega), pu_ask, pu_call, pu_bnd, pu_chk, pu_b0, pu_b1, bN_t, bN_f, bN_c, i10, i00, if_true, if_false]
  · simp only [fX6_listed, bX6_listed_25, m_isPlace, h1, pu_ask, pu_call, pu_bnd, pu_chk, pu_b0, pu_b1, bN_t, bN_f, bN_c, i10, i00, if_true, if_false]
    rw [show (6 : Int32) + nI i = nI (6 + i) from nI_add 6 i, pu_chkP (pu_in (by omega) (by decide)), nI_clamp (by omega), ha.2.2.2.1 i (by omega)]
theorem e_seed {σ : mt_St} {y : Nat} (h : RR σ y) (v : Int32) : EV (fun s => fX5_seed 5000 s v) (fun s => fX6_seed 5000 s v) σ y := by
  obtain ⟨⟨a, ha⟩, -⟩ := id h
  refine ⟨σ 1 5, mt_row σ 1 (upd (σ 1) 5 v), mt_row (mt_row σ 1 (upd (σ 1) 5 v)) 57 (upd (σ 57) 2 v), ?_, ?_, h.act (Nat.le_refl _) (ha.num (Or.inr (Or.inr ⟨rfl, rfl⟩))) ((loud.row (by omega)).tr (loud.row (by omega)))⟩
  · rfl
  · simp only [fX6_seed]
    rw [show (2 : Int32) = nI 2 from rfl, m_become (by decide), pu_call, mt_row_n (show (57 : Nat) ≠ 1 by decide), ha.2.1.1.2.2.2.2.1, ha.2.2.1.2.2.2.2.1]
theorem e_wipe {σ : mt_St} {y : Nat} (h : RR σ y) : EV (fun s => fX5_wipe 5000 s) (fun s => fX6_wipe 5000 s) σ y := by
  obtain ⟨⟨a, ha⟩, h2, h3, h4, h5⟩ := id h
  have e : ∀ c, c ≠ 44 → c ≠ 56 → mt_up (mt_up σ 44 1 0) 56 7 0 c = σ c := fun c p q => by rw [pu_up, mt_row_n q, pu_up, mt_row_n p]
  have e56 : ∀ k, k ≠ 7 → mt_up (mt_up σ 44 1 0) 56 7 0 56 k = σ 56 k := fun k p => by rw [pu_up, mt_row_s, pu_upd_n p, pu_up, mt_row_n (by decide)]
  refine ⟨σ 44 1, mt_up σ 44 1 0, mt_up (mt_up σ 44 1 0) 56 7 0, rfl, ?_, ⟨⟨a, ha.same (fun c p q => e c (by omega) (by omega)) (fun k _ => by rw [e 57 (by decide) (by decide)])⟩, h2.same (fun c p q => e c (by omega) (by omega)) (e 58 (by decide) (by decide)) (e 0 (by decide) (by decide)) (e56 3 (by decide)), h3.same (e 55 (by decide) (by decide)) (e 60 (by decide) (by decide)), h4.same (fun c p q => e c (by omega) (by omega)) (e 64 (by decide) (by decide)) (e 65 (by decide) (by decide)) (e 66 (by decide) (by decide)), ?_⟩⟩
  · simp only [fX6_wipe, pu_bnd]
    rw [← h5.1]
    rfl
  · exact ⟨rfl, 0, by omega, rfl, fun k hk => absurd hk (by omega)⟩
