/-! a new treaty -/
def newT (k p q yard : Int32) : Nat → Int32 := fun i => if i = 0 then k else if i = 1 then p else if i = 2 then q else if i = 3 then yard else if i = 4 then 1 else 0
theorem tE_cases {f T : Nat → Int32} (h0 : f 0 = T 0) (h1 : f 1 = T 1) (h2 : f 2 = T 2) (h3 : f 3 = T 3) (h4 : f 4 = T 4) (h5 : f 5 = T 5) (h6 : f 6 = T 6) (h7 : f 7 = T 7) : tE f T := by
  intro k hk
  rcases (show k = 0 ∨ k = 1 ∨ k = 2 ∨ k = 3 ∨ k = 4 ∨ k = 5 ∨ k = 6 ∨ k = 7 by omega) with rfl | rfl | rfl | rfl | rfl | rfl | rfl | rfl <;> assumption
theorem x_begin {fu c : Nat} {σ : mt_St} {k p q yd : Int32} : ∃ f, fX3_begin fu σ c k p q yd = some ((), mt_row σ c f) ∧ tE f (newT k p q yd) := by
  unfold fX3_begin
  simp only [pu_bnd, pu_up, mt_row_s, pu_row_row]
  exact ⟨_, rfl, tE_cases rfl rfl rfl rfl rfl rfl rfl rfl⟩
def signA (a : AW) (T : Nat → Int32) : AW := mt_row (mt_row a 0 (upd (a 0) 7 (nI (nA a + 1)))) (4 + nA a) T
theorem signA_f {a : AW} {T : Nat → Int32} (hn8 : nA a < 8) : nA (signA a T) = nA a + 1 ∧ signA a T 0 = upd (a 0) 7 (nI (nA a + 1)) ∧ signA a T 1 = a 1 ∧ signA a T 3 = a 3 ∧ signA a T (4 + nA a) = T ∧ ∀ t, t < nA a → signA a T (4 + t) = a (4 + t) := by
  have e0 : signA a T 0 = upd (a 0) 7 (nI (nA a + 1)) := by unfold signA; rw [mt_row_n (by omega), mt_row_s]
  refine ⟨?_, e0, ?_, ?_, mt_row_s _ _ _, fun t ht => ?_⟩
  · unfold nA
    rw [e0, pu_upd_s, nI_clamp]
    · rfl
    · have : nA a + 1 < 2 ^ 31 := by omega
      exact this
  · unfold signA; rw [mt_row_n (by omega), mt_row_n (by omega)]
  · unfold signA; rw [mt_row_n (by omega), mt_row_n (by omega)]
  · unfold signA; rw [mt_row_n (by omega), mt_row_n (by omega)]
theorem RA.sign {σ σ' : mt_St} {y : Nat} {a : AW} {T f : Nat → Int32} (h : RA σ y a) (hn8 : nA a < 8) (hT : wfT T) (hf : tE f T) (hx : ∀ c, 1 ≤ c → c < 13 → σ' c = mt_up (mt_row σ (1 + 4 + nA a) f) 1 7 (nI (nA a + 1)) c) (h1 : ∀ q, q < 22 + 8 * nA a → q ≠ 1 → σ' 57 q = σ 57 q) (h11 : σ' 57 1 = nI (nA a + 1)) (hg : tE (gT (σ' 57) (nA a)) T) : RA σ' y (signA a T) := by
  obtain ⟨⟨w1, w2, w3, w4, w5, w6, w7, w8⟩, ⟨⟨e0, e1, e3, e4, e5, e7⟩, hl, hs, ht⟩, ⟨⟨f0, f1, f3, f4, f5, f7⟩, gl, gs, gt⟩⟩ := h
  obtain ⟨s1, s2, s3, s4, s5, s6⟩ := signA_f (T := T) hn8
  refine ⟨?_, ?_, ?_⟩
  · unfold wfA
    rw [s1, s2, s3, s4]
    refine ⟨⟨nA a + 1, by omega, rfl⟩, w2, w3, w4, w5, w6, fun i hi => ?_, fun t htn => ?_⟩
    · rcases w7 i hi with e | ⟨t, ht, e⟩
      · exact Or.inl e
      · exact Or.inr ⟨t, by omega, e⟩
    · by_cases q : t = nA a
      · rw [q, s5]; exact hT
      · rw [s6 t (by omega)]; exact w8 t (by omega)
  · unfold SX
    have x1 : σ' 1 = upd (σ 1) 7 (nI (nA a + 1)) := by rw [hx 1 (by omega) (by omega), pu_up, mt_row_s, mt_row_n (by omega)]
    have xc : ∀ c, 2 ≤ c → c < 13 → c ≠ 5 + nA a → σ' c = σ c := fun c p q r => by rw [hx c (by omega) q, pu_up, mt_row_n (by omega), mt_row_n (by omega)]
    rw [s1, s2, s3, s4, x1]
    refine ⟨⟨e0, e1, e3, e4, e5, rfl⟩, fun i hi => ?_, fun i hi => ?_, fun t htn => ?_⟩
    · rw [xc (1 + 1) (by omega) (by omega) (by omega)]; exact hl i hi
    · rw [xc (1 + 3) (by omega) (by omega) (by omega)]; exact hs i hi
    · by_cases q : t = nA a
      · rw [q, s5, hx _ (by omega) (by omega), pu_up, mt_row_n (by omega), mt_row_s]; exact hf
      · rw [s6 t (by omega), xc (1 + 4 + t) (by omega) (by omega) (by omega)]; exact ht t (by omega)
  · unfold SM
    rw [s1, s2, s3, s4, h11, h1 4 (by omega) (by omega), h1 5 (by omega) (by omega), h1 3 (by omega) (by omega), h1 0 (by omega) (by omega), h1 2 (by omega) (by omega)]
    refine ⟨⟨f0, f1, f3, f4, f5, rfl⟩, fun i hi => ?_, fun i hi => ?_, fun t htn => ?_⟩
    · rw [h1 _ (by omega) (by omega)]; exact gl i hi
    · rw [h1 _ (by omega) (by omega)]; exact gs i hi
    · by_cases q : t = nA a
      · rw [q, s5]; exact hg
      · rw [s6 t (by omega)]
        intro k hk
        rw [← gt t (by omega) k hk]
        exact h1 _ (by omega) (by omega)
theorem m_at {fu t k : Nat} : fX6_treatyAt fu (nI t) (nI k) = some (nI (22 + 8 * t + k)) := congrArg some (m_ix t k)
theorem m_comesLoop {n : Nat} {k p q : Int32} (hn : n < 8) : ∀ (d i fuel : Nat) (σ : mt_St), 8 = i + d → d < fuel → σ 57 1 = nI n → ∃ r, bX6_comes_11 5000 fuel σ k p q (nI n) (nI i) = some (nI n, mt_row σ 57 r) ∧ (∀ j, j < 22 + 8 * n ∨ 30 + 8 * n ≤ j → j ≠ 1 → r j = σ 57 j) ∧ r 1 = nI (n + 1) ∧ ((∀ j, 5 ≤ j → j < i → gT (σ 57) n j = 0) → tE (gT r n) (newT k p q (σ 57 4))) := by
  intro d
  induction d with
  | zero =>
    intro i fuel σ hd hf h1
    obtain ⟨fuel, rfl⟩ : ∃ q, fuel = q + 1 := ⟨fuel - 1, by omega⟩
    have : i = 8 := by omega
    subst this
    unfold bX6_comes_11
    rw [if_pos (by decide)]
    simp only [m_at0, m_at1, m_at2, m_at3, m_at4, pu_in (show 22 + 8 * n + 0 < 86 by omega) (by decide), pu_in (show 22 + 8 * n + 1 < 86 by omega) (by decide), pu_in (show 22 + 8 * n + 2 < 86 by omega) (by decide), pu_in (show 22 + 8 * n + 3 < 86 by omega) (by decide), pu_in (show 22 + 8 * n + 4 < 86 by omega) (by decide), nI_clamp (show 22 + 8 * n + 0 < 2 ^ 31 by omega), nI_clamp (show 22 + 8 * n + 1 < 2 ^ 31 by omega), nI_clamp (show 22 + 8 * n + 2 < 2 ^ 31 by omega), nI_clamp (show 22 + 8 * n + 3 < 2 ^ 31 by omega), nI_clamp (show 22 + 8 * n + 4 < 2 ^ 31 by omega), pu_up, mt_row_s, pu_row_row, pu_ask, pu_call, pu_bnd, pu_chk, pu_b0, pu_b1, bN_t, bN_f, bN_c, i10, i00, if_true, if_false]
    refine ⟨_, rfl, fun j hj hj1 => ?_, ?_, fun hz => ?_⟩
    · rw [pu_upd_n hj1, pu_upd_n (by omega), pu_upd_n (by omega), pu_upd_n (by omega), pu_upd_n (by omega), pu_upd_n (by omega)]
    · rw [pu_upd_s, pu_upd_n (by omega), pu_upd_n (by omega), pu_upd_n (by omega), pu_upd_n (by omega), pu_upd_n (by omega), h1, nI_1]
    · have z5 := hz 5 (by omega) (by omega)
      have z6 := hz 6 (by omega) (by omega)
      have z7 := hz 7 (by omega) (by omega)
      refine tE_cases ?_ ?_ ?_ ?_ ?_ ?_ ?_ ?_ <;> unfold gT
      · rw [pu_upd_n (by omega), pu_upd_n (by omega), pu_upd_n (by omega), pu_upd_n (by omega), pu_upd_n (by omega), pu_upd_s]; rfl
      · rw [pu_upd_n (by omega), pu_upd_n (by omega), pu_upd_n (by omega), pu_upd_n (by omega), pu_upd_s]; rfl
      · rw [pu_upd_n (by omega), pu_upd_n (by omega), pu_upd_n (by omega), pu_upd_s]; rfl
      · rw [pu_upd_n (by omega), pu_upd_n (by omega), pu_upd_s, pu_upd_n (by omega), pu_upd_n (by omega), pu_upd_n (by omega)]; rfl
      · rw [pu_upd_n (by omega), pu_upd_s]; rfl
      · rw [pu_upd_n (by omega), pu_upd_n (by omega), pu_upd_n (by omega), pu_upd_n (by omega), pu_upd_n (by omega), pu_upd_n (by omega)]; exact z5
      · rw [pu_upd_n (by omega), pu_upd_n (by omega), pu_upd_n (by omega), pu_upd_n (by omega), pu_upd_n (by omega), pu_upd_n (by omega)]; exact z6
      · rw [pu_upd_n (by omega), pu_upd_n (by omega), pu_upd_n (by omega), pu_upd_n (by omega), pu_upd_n (by omega), pu_upd_n (by omega)]; exact z7
  | succ d ih =>
    intro i fuel σ hd hf h1
    obtain ⟨fuel, rfl⟩ : ∃ q, fuel = q + 1 := ⟨fuel - 1, by omega⟩
    unfold bX6_comes_11
    rw [if_neg (show ¬ (8 : Int32) ≤ nI i from nI_ge (b := 8) (by omega) (by decide)), m_at, pu_ask, pu_chkP (pu_in (by omega) (by decide)), pu_bnd, nI_clamp (by omega), nI_1]
    obtain ⟨r, e1, e2, e3, e4⟩ := ih (i + 1) fuel (mt_up σ 57 (22 + 8 * n + i) 0) (by omega) (by omega) (by rw [pu_up, mt_row_s, pu_upd_n (by omega)]; exact h1)
    refine ⟨r, by rw [e1, pu_up, pu_row_row], fun j hj hj1 => ?_, e3, fun hz => ?_⟩
    · rw [e2 j hj hj1, pu_up, mt_row_s, pu_upd_n (by omega)]
    · rw [pu_up, mt_row_s, gT_upd, pu_upd_n (by omega)] at e4
      refine e4 (fun j h5 hj => ?_)
      by_cases q : j = i
      · subst q; rw [pu_upd_s]
      · rw [pu_upd_n q]; exact hz j h5 (by omega)
theorem wfT_new {k p q : Nat} {yd : Int32} (hk : k ≤ 6) (hp : p ≤ 5) (hq : q ≤ 5) (hne : nI p ≠ nI q) (hy : ps_S yd) : wfT (newT (nI k) (nI p) (nI q) yd) :=
  ⟨⟨k, hk, rfl⟩, ⟨p, hp, rfl⟩, ⟨q, hq, rfl⟩, hne, hy, Or.inr rfl, ⟨0, by omega, rfl⟩, ⟨0, by omega, rfl⟩, ⟨0, by omega, rfl⟩⟩
theorem e_treaty {σ : mt_St} {y : Nat} (h : RR σ y) (u v w : Int32) : EV (fun s => fX5_treaty 5000 s u v w) (fun s => fX6_treaty 5000 s u v w) σ y := by
  obtain ⟨⟨a, ha⟩, -⟩ := id h
  obtain ⟨i7, i1⟩ := ha.isT
  have hn8 := ha.1.n8
  cases h1 : okR u 6
  · refine EV.find (w := 0) (by decide) h ?_ ?_
    · simp only [fX5_treaty, bX5_treaty_17, x_win, h1, x_find0, pu_ask, pu_call, pu_bnd, pu_chk, pu_b0, pu_b1, bN_t, bN_f, bN_c, i10, i00, if_true, if_false]
    · simp only [fX6_treaty, bX6_treaty_26, m_isKind, h1, m_find0, pu_ask, pu_call, pu_bnd, pu_chk, pu_b0, pu_b1, bN_t, bN_f, bN_c, i10, i00, if_true, if_false]
  cases h2 : okR v 5
  · refine EV.find (w := 0) (by decide) h ?_ ?_
    · simp only [fX5_treaty, bX5_treaty_17, x_win, x_pair, h1, h2, Bool.false_and, x_find0, pu_ask, pu_call, pu_bnd, pu_chk, pu_b0, pu_b1, bN_t, bN_f, bN_c, i10, i00, if_true, if_false]
    · simp only [fX6_treaty, bX6_treaty_26, m_isKind, m_isPower, h1, h2, m_find0, pu_ask, pu_call, pu_bnd, pu_chk, pu_b0, pu_b1, bN_t, bN_f, bN_c, i10, i00, if_true, if_false]
  cases h3 : okR w 5
  · refine EV.find (w := 0) (by decide) h ?_ ?_
    · simp only [fX5_treaty, bX5_treaty_17, x_win, x_pair, h1, h2, h3, Bool.false_and, Bool.and_false, x_find0, pu_ask, pu_call, pu_bnd, pu_chk, pu_b0, pu_b1, bN_t, bN_f, bN_c, i10, i00, if_true, if_false]
    · simp only [fX6_treaty, bX6_treaty_26, m_isKind, m_isPower, h1, h2, h3, m_find0, pu_ask, pu_call, pu_bnd, pu_chk, pu_b0, pu_b1, bN_t, bN_f, bN_c, i10, i00, if_true, if_false]
  by_cases h4 : v = w
  · refine EV.find (w := 0) (by decide) h ?_ ?_
    · simp only [fX5_treaty, bX5_treaty_17, x_win, x_pair, h1, h2, h3, h4, decide_true, Bool.not_true, Bool.and_false, x_find0, pu_ask, pu_call, pu_bnd, pu_chk, pu_b0, pu_b1, bN_t, bN_f, bN_c, i10, i00, if_true, if_false]
    · simp only [fX6_treaty, bX6_treaty_26, m_isKind, m_isPower, h1, h3, h4, m_find0, pu_ask, pu_call, pu_bnd, pu_chk, pu_b0, pu_b1, bN_t, bN_f, bN_c, i10, i00, if_true, if_false]
  by_cases h5 : nA a = 8
  · rw [h5] at i7 i1
    refine EV.find (w := 1) (by decide) h ?_ ?_
    · simp only [fX5_treaty, bX5_treaty_17, x_win, x_pair, h1, h2, h3, h4, i7, decide_false, Bool.not_false, Bool.and_true, x_find1, pu_ask, pu_call, pu_bnd, pu_chk, pu_b0, pu_b1, bN_t, bN_f, bN_c, i10, i00, if_true, if_false]
      rfl
    · simp only [fX6_treaty, bX6_treaty_26, bX6_treaty_60, m_isKind, m_isPower, h1, h2, h3, h4, x_fs_n (show 57 ≠ 55 by decide), i1, m_find1, pu_ask, pu_call, pu_bnd, pu_chk, pu_b0, pu_b1, bN_t, bN_f, bN_c, i10, i00, if_true, if_false]
      rfl
  obtain ⟨k, hk, rfl⟩ := okR_nI (m := 6) (by decide) h1
  obtain ⟨p, hp, rfl⟩ := okR_nI (m := 5) (by decide) h2
  obtain ⟨q, hq, rfl⟩ := okR_nI (m := 5) (by decide) h3
  obtain ⟨f, hf, hfT⟩ := x_begin (fu := 5000) (c := 1 + 4 + nA a) (σ := σ) (k := nI k) (p := nI p) (q := nI q) (yd := σ 1 0)
  have hlt : nI (nA a) < 8 := nI_lt (b := 8) (by omega) (by decide)
  have hge : ¬ (8 : Int32) ≤ nI (nA a) := nI_ge (b := 8) (by omega) (by decide)
  have hnq : ¬ nI (nA a) = 8 := by intro e; rw [e] at hge; exact hge (by decide)
  have s1 : mt_row σ (1 + 4 + nA a) f 1 = σ 1 := mt_row_n (by omega)
  have s57 : mt_up (mt_row σ (1 + 4 + nA a) f) 1 7 (nI (nA a + 1)) 57 = σ 57 := by rw [pu_up, mt_row_n (by decide), mt_row_n (by omega)]
  obtain ⟨r, r1, r2, r3, r4⟩ := m_comesLoop (n := nA a) (k := nI k) (p := nI p) (q := nI q) (by omega) 8 0 5000 (mt_up (mt_row σ (1 + 4 + nA a) f) 1 7 (nI (nA a + 1))) (by omega) (by omega) (by rw [s57]; exact i1)
  rw [s57] at r2 r4
  have r4 := r4 (fun j h5 hj => absurd hj (by omega))
  have hy0 : σ 1 0 = a 0 0 := ha.2.1.1.1
  have hy4 : σ 57 4 = a 0 0 := ha.2.2.1.1
  rw [hy0] at hfT
  rw [hy4] at r4
  refine ⟨nI (nA a), mt_up (mt_row σ (1 + 4 + nA a) f) 1 7 (nI (nA a + 1)), mt_row (mt_up (mt_row σ (1 + 4 + nA a) f) 1 7 (nI (nA a + 1))) 57 r, ?_, ?_, h.act (Nat.le_refl _) (ha.sign (by omega) (wfT_new hk hp hq h4 ha.1.2.1) hfT (fun c p q => mt_row_n (by omega)) (fun j hj hj1 => ?_) ?_ ?_) (((loud.row (by omega)).tr (loud.row (by omega))).tr (loud.row (by omega)))⟩
  · simp only [fX5_treaty, bX5_treaty_17, x_win, x_pair, h1, h2, h3, h4, i7, decide_false, Bool.not_false, Bool.and_true, hlt, fX4_sign, bX4_sign_38, hge, pu_in (show nA a < 8 by omega) (by decide), nI_clamp (show nA a < 2 ^ 31 by omega), show 1 + 2 + 2 + nA a = 1 + 4 + nA a by omega, hf, s1, nI_1, pu_ask, pu_call, pu_bnd, pu_chk, pu_b0, pu_b1, bN_t, bN_f, bN_c, i10, i00, if_true, if_false]
    rw [pu_up, mt_row_s, pu_upd_s, nI_pred]
  · simp only [fX6_treaty, bX6_treaty_26, bX6_treaty_60, m_isKind, m_isPower, h1, h2, h3, h4, s57, i1, hnq, fX6_comes, pu_ask, pu_call, pu_bnd, pu_chk, pu_b0, pu_b1, bN_t, bN_f, bN_c, i10, i00, if_true, if_false]
    rw [show (0 : Int32) = nI 0 from rfl, r1]
    rfl
  · rw [mt_row_s, r2 j (by omega) hj1]
  · rw [mt_row_s]; exact r3
  · rw [mt_row_s]; exact r4
