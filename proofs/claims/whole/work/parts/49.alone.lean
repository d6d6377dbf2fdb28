/-! one treaty alone -/
theorem yrs_1 (k : Nat) (a : AW) : yrs k a 1 = a 1 := by
  induction k with
  | zero => rfl
  | succ k ih => show passA (yrs k a) 1 = _; rw [passA_1, ih]
theorem yrs_00 (k : Nat) (a : AW) : yrs k a 0 0 = a 0 0 := by
  induction k with
  | zero => rfl
  | succ k ih => show passA (yrs k a) 0 0 = _; rw [passA_0, pu_upd_n (by decide), pu_upd_n (by decide), pu_upd_n (by decide), ih]
theorem yrs_01 (k : Nat) (a : AW) : yrs (k + 1) a 0 1 = upA (yrs k a) := by
  show passA (yrs k a) 0 1 = _
  rw [passA_0, pu_upd_n (by decide), pu_upd_n (by decide), pu_upd_s]
theorem yrs_04 (k : Nat) (a : AW) : yrs (k + 1) a 0 4 = yrs k a 0 4 + 1 := by
  show passA (yrs k a) 0 4 = _
  rw [passA_0, pu_upd_s]
theorem yrs_cg {a b : AW} (h1 : b 0 1 = a 0 1) (h4 : b 0 4 = a 0 4) (hl : b 1 = a 1) (k : Nat) : yrs k b 0 1 = yrs k a 0 1 ∧ yrs k b 0 4 = yrs k a 0 4 ∧ upA (yrs k b) = upA (yrs k a) := by
  have up : ∀ c d : AW, d 0 1 = c 0 1 → d 0 4 = c 0 4 → d 1 = c 1 → upA d = upA c := fun c d p q r => by unfold upA evA; rw [p, q, r]
  induction k with
  | zero => exact ⟨h1, h4, up a b h1 h4 hl⟩
  | succ k ih =>
    have e1 : yrs (k + 1) b 0 1 = yrs (k + 1) a 0 1 := by rw [yrs_01, yrs_01, ih.2.2]
    have e4 : yrs (k + 1) b 0 4 = yrs (k + 1) a 0 4 := by rw [yrs_04, yrs_04, ih.2.1]
    exact ⟨e1, e4, up _ _ e1 e4 (by rw [yrs_1, yrs_1, hl])⟩
def alo (a : AW) (T : Nat → Int32) : Nat → Nat → Int32
  | 0 => T
  | k + 1 => liveT (alo a T k) (upA (yrs k a)) (a 0 0)
def alG (a : AW) (T : Nat → Int32) : Nat → Int32
  | 0 => 0
  | k + 1 => alG a T k + gainT (alo a T k) (upA (yrs k a))
theorem yrs_alo {a : AW} {T : Nat → Int32} {t : Nat} (ht : t < nA a) (k : Nat) : yrs k (mt_row a (4 + t) T) (4 + t) = alo a T k := by
  induction k with
  | zero => exact mt_row_s _ _ _
  | succ k ih =>
    show passA (yrs k (mt_row a (4 + t) T)) (4 + t) = _
    rw [passA_t _ (by rw [nA_yrs, nA_treat]; exact ht), ih, yrs_00, mt_row_n (show 0 ≠ 4 + t by omega), (yrs_cg (a := a) (b := mt_row a (4 + t) T) (by rw [mt_row_n (by omega)]) (by rw [mt_row_n (by omega)]) (mt_row_n (by omega)) k).2.2]
    rfl
theorem aw_same (a : AW) (c : Nat) : mt_row a c (a c) = a := mt_row_same a c
theorem yrs_alo' {a : AW} {t : Nat} (ht : t < nA a) (k : Nat) : yrs k a (4 + t) = alo a (a (4 + t)) k := by
  have := yrs_alo (T := a (4 + t)) ht k
  rw [aw_same] at this
  exact this
theorem x_foreLoop {a : AW} {y m : Nat} (hm : m ≤ 200) (hy : y ≤ 40000) (hw : wfA a y) : ∀ (d i fuel : Nat) (σ : mt_St), m = i + d → d < fuel → (∀ j, j < 6 → σ 2 j = a 1 j) → ∃ f, bX5_foreseeUps_19 5000 fuel σ (nI m) (yrs i a 0 1) (yrs i a 0 4) (nI i) = some ((), mt_row σ 38 f) ∧ ∀ k, k < m → f k = if i ≤ k then upA (yrs k a) else σ 38 k := by
  intro d
  induction d with
  | zero =>
    intro i fuel σ hd hf hl
    obtain ⟨fuel, rfl⟩ : ∃ q, fuel = q + 1 := ⟨fuel - 1, by omega⟩
    have : i = m := by omega
    subst this
    unfold bX5_foreseeUps_19 bX5_foreseeUps_73
    rw [if_pos (nI_le (Nat.le_refl _) (by omega))]
    exact ⟨σ 38, by rw [mt_row_same], fun k hk => by rw [if_neg (by omega)]⟩
  | succ d ih =>
    intro i fuel σ hd hf hl
    obtain ⟨fuel, rfl⟩ : ∃ q, fuel = q + 1 := ⟨fuel - 1, by omega⟩
    have wi := wf_yrs i (show y + i < 2 ^ 30 by omega) hw
    obtain ⟨z, hz, ez⟩ := wi.2.2.2.2.1
    have ey : yrs i a 0 4 - yrs i a 0 4 / 6 * 6 = nI (z % 6) := by rw [ez]; exact pu_y6 (by omega)
    have eu : tog (yrs i a 0 1) (a 1 (z % 6)) = upA (yrs i a) := by
      unfold upA evA
      rw [ey, nI_clamp (by omega), yrs_1]
    have em : mt_min (yrs i a 0 4 + 1) 99999 = yrs (i + 1) a 0 4 := by
      rw [yrs_04, ez, nI_1]
      exact pu_min_lt (m := 99999) (by omega) (by decide)
    unfold bX5_foreseeUps_19
    rw [if_neg (nI_ge (by omega) (by omega)), if_neg (show ¬ (200 : Int32) ≤ nI i from nI_ge (b := 200) (by omega) (by decide)), ey, pu_chkP (pu_in (by omega) (by decide)), nI_clamp (by omega), hl _ (by omega), x_tog, pu_ask, pu_chkP (pu_in (by omega) (by decide)), pu_bnd, nI_clamp (by omega), eu, em, ← yrs_01, nI_1]
    obtain ⟨f, e1, e2⟩ := ih (i + 1) fuel (mt_up σ 38 i (yrs (i + 1) a 0 1)) (by omega) (by omega) (fun j hj => by rw [pu_up, mt_row_n (by decide)]; exact hl j hj)
    refine ⟨f, by rw [e1, pu_up, pu_row_row], fun k hk => ?_⟩
    rw [e2 k hk, pu_up, mt_row_s]
    by_cases q : k = i
    · subst q; rw [if_neg (by omega), pu_upd_s, if_pos (by omega), yrs_01]
    · rw [pu_upd_n q]
      by_cases q2 : i + 1 ≤ k
      · rw [if_pos q2, if_pos (by omega)]
      · rw [if_neg q2, if_neg (by omega)]
theorem x_fore {a : AW} {y m : Nat} {σ : mt_St} (hm : m ≤ 200) (hy : y ≤ 40000) (hw : wfA a y) (h : SX a σ 1) : ∃ f, fX5_foreseeUps 5000 σ (nI m) = some ((), mt_row σ 38 f) ∧ ∀ k, k < m → f k = upA (yrs k a) := by
  obtain ⟨f, e1, e2⟩ := x_foreLoop hm hy hw m 0 5000 σ (by omega) (by omega) h.2.1
  refine ⟨f, ?_, fun k hk => by rw [e2 k hk, if_pos (by omega)]⟩
  unfold fX5_foreseeUps
  rw [h.1.2.1, h.1.2.2.2.1]
  exact e1
theorem x_try {a : AW} {y t : Nat} {σ : mt_St} (hw : wfA a y) (h : SX a σ 1) (ht : t < nA a) : ∃ f, fX5_tryAlone 5000 σ (nI t) = some ((), mt_row σ 37 f) ∧ tE f (a (4 + t)) := by
  have hn8 := hw.n8
  obtain ⟨f, e1, e2⟩ := x_bec3 (fu := 5000) (c := 37) (d := 1 + 4 + t) (σ := σ) (by omega)
  refine ⟨f, ?_, fun k hk => (e2 k hk).trans (h.2.2.2 t ht k hk)⟩
  unfold fX5_tryAlone bX5_tryAlone_24
  rw [x_isTreaty, pu_ask, h.n hw, okR_Tof ht hn8, bN_t, if_neg (by decide), pu_chkP (pu_in (by omega) (by decide)), nI_clamp (by omega), show 1 + 2 + 2 + t = 1 + 4 + t by omega, e1, pu_call]
theorem x_lvLoop {a : AW} {T : Nat → Int32} {m : Nat} (hm : m ≤ 200) : ∀ (d i fuel : Nat) (σ : mt_St), m = i + d → d < fuel → tE (σ 37) (alo a T i) → (∀ k, k < m → σ 38 k = upA (yrs k a)) → ∃ f, bX3_liveYears_6 5000 37 fuel σ (nI m) (a 0 0) (alG a T i) (nI i) = some (alG a T m, mt_row σ 37 f) ∧ tE f (alo a T m) := by
  intro d
  induction d with
  | zero =>
    intro i fuel σ hd hf h hu
    obtain ⟨fuel, rfl⟩ : ∃ q, fuel = q + 1 := ⟨fuel - 1, by omega⟩
    have : i = m := by omega
    subst this
    unfold bX3_liveYears_6 bX3_liveYears_39
    rw [if_pos (nI_le (Nat.le_refl _) (by omega))]
    exact ⟨σ 37, by rw [mt_row_same], h⟩
  | succ d ih =>
    intro i fuel σ hd hf h hu
    obtain ⟨fuel, rfl⟩ : ∃ q, fuel = q + 1 := ⟨fuel - 1, by omega⟩
    unfold bX3_liveYears_6
    rw [if_neg (nI_ge (by omega) (by omega)), if_neg (show ¬ (200 : Int32) ≤ nI i from nI_ge (b := 200) (by omega) (by decide)), pu_chkP (pu_in (by omega) (by decide)), nI_clamp (by omega), hu i (by omega), x_live, pu_call, nI_1, tE_gain h]
    obtain ⟨f, e1, e2⟩ := ih (i + 1) fuel (mt_row σ 37 (liveT (σ 37) (upA (yrs i a)) (a 0 0))) (by omega) (by omega) (by rw [mt_row_s]; exact tE_live h _ _) (fun k hk => by rw [mt_row_n (by decide)]; exact hu k hk)
    exact ⟨f, by rw [pu_row_row] at e1; exact e1, e2⟩
theorem x_lv {a : AW} {T : Nat → Int32} {m : Nat} {σ : mt_St} (hm : m ≤ 200) (h : tE (σ 37) T) (hu : ∀ k, k < m → σ 38 k = upA (yrs k a)) : ∃ f, fX3_liveYears 5000 σ 37 (nI m) (a 0 0) = some (alG a T m, mt_row σ 37 f) ∧ tE f (alo a T m) := by
  unfold fX3_liveYears
  exact x_lvLoop hm m 0 5000 σ (by omega) (by omega) h hu
theorem tell_up {T : Nat → Int32} {u v : Int32} {k : Nat} (hk : k < 8 ∨ k = 10) : tellT T u k = tellT T v k := by
  unfold tellT
  rcases hk with hk | rfl
  · rw [if_pos hk, if_pos hk]
  · rfl
theorem e_aheadGo {σ : mt_St} {y t k m : Nat} {a : AW} (hy : y ≤ 40000) (h : RR σ y) (ha : RA σ y a) (ht : t < nA a) (hk : k < 8 ∨ k = 10) (hm : m ≤ 100) : EV (fun s => bX5_ahead_22 5000 s (nI t) (nI k) (nI m) 1) (fun s => bX6_ahead_21 5000 s (nI t) (nI k) (nI m) 1) σ y := by
  have hn8 := ha.1.n8
  obtain ⟨i7, i1⟩ := ha.isT
  obtain ⟨f, e1, u1⟩ := x_fore (m := m) (by omega) hy ha.1 ha.2.1
  have s1 : SX a (mt_row σ 38 f) 1 := ha.2.1.same hn8 (fun c p q => mt_row_n (by omega))
  obtain ⟨g, e2, t2⟩ := x_try ha.1 s1 ht
  obtain ⟨l, e3, t3⟩ := x_lv (a := a) (T := a (4 + t)) (m := m) (σ := mt_row (mt_row σ 38 f) 37 g) (by omega) (by rw [mt_row_s]; exact t2) (fun k hk => by rw [mt_row_n (by decide), mt_row_s]; exact u1 k hk)
  obtain ⟨r, c1, c2⟩ := m_copy (a1 := 57) (a2 := 59) (by decide) (mt_row (mt_row (mt_row σ 38 f) 37 g) 37 l)
  have k57 : mt_row (mt_row (mt_row σ 38 f) 37 g) 37 l 57 = σ 57 := by rw [mt_row_n (by decide), mt_row_n (by decide), mt_row_n (by decide)]
  obtain ⟨σ1, g1, g2, g3⟩ := m_years (σ := mt_row (mt_row (mt_row (mt_row σ 38 f) 37 g) 37 l) 59 r) (m := m) (by omega) (by omega) ha.1 (by rw [mt_row_n (by decide), k57]; exact ha.2.2)
  have w' := wf_yrs m (show y + m < 2 ^ 30 by omega) ha.1
  have hT : tE (gT (σ1 57) t) (yrs m a (4 + t)) := g2.T (by rw [nA_yrs]; exact ht)
  obtain ⟨σ2, b1, b2⟩ := m_back (v := tellT (gT (σ1 57) t) (σ1 57 5) k) c2 g3
  have hok : okR (nI m) 100 = true := okR_of (m := 100) hm (by decide)
  refine EV.quiet (r := tellT (alo a (a (4 + t)) m) (a 0 1) k) h (σ1 := mt_row (mt_row (mt_row σ 38 f) 37 g) 37 l) (σ2 := σ2) ?_ ?_ (((quiet.row (by omega)).tr (quiet.row (by omega))).tr (quiet.row (by omega))) b2.quiet
  · simp only [bX5_ahead_22, x_isTreaty, i7, okR_Tof ht hn8, x_win, hok, e1, e2, pu_ask, pu_call, pu_bnd, pu_chk, pu_b0, pu_b1, bN_t, bN_f, bN_c, i10, i00, if_true, if_false]
    rw [mt_row_n (show 1 ≠ 37 by decide), mt_row_n (show 1 ≠ 38 by decide), ha.2.1.1.1, e3, pu_call, x_tell12 (show k ≤ 12 by omega), pu_ask, mt_row_s, tE_tell t3, tell_up hk]
  · have p3 : ps_S (gT (σ1 57) t 3) := g2.p3 w' (by rw [nA_yrs]; exact ht)
    simp only [bX6_ahead_21, m_isTreaty, k57, i1, okR_Tof ht hn8, m_win, hok, c1, g1, m_told12 (show t < 8 by omega) (show k ≤ 12 by omega) p3, pu_ask, pu_call, pu_bnd, pu_chk, pu_b0, pu_b1, bN_t, bN_f, bN_c, i10, i00, if_true, if_false]
    rw [b1, pu_call, tE_tell hT, yrs_alo' ht, tell_up hk]
theorem e_ahead {σ : mt_St} {y : Nat} (hy : y ≤ 40000) (h : RR σ y) (u v w : Int32) : EV (fun s => fX5_ahead 5000 s u v w) (fun s => fX6_ahead 5000 s u v w) σ y := by
  obtain ⟨⟨a, ha⟩, -⟩ := id h
  obtain ⟨i7, i1⟩ := ha.isT
  have bad : ∀ b : Int32, (okR u (nI (nA a) - 1) = false ∨ b = 0 ∨ okR w 100 = false) → EV (fun s => bX5_ahead_22 5000 s u v w b) (fun s => bX6_ahead_21 5000 s u v w b) σ y := by
    intro b hb
    refine EV.find (w := 0) (by decide) h ?_ ?_
    · show bX5_ahead_22 5000 σ u v w b = _
      unfold bX5_ahead_22 bX5_ahead_46
      rw [x_isTreaty, pu_ask, i7, x_win, pu_ask, x_find0, pu_call]
      cases h1 : okR u (nI (nA a) - 1)
      · rw [bN_f, if_pos rfl]
      · rw [bN_t, if_neg (by decide)]
        by_cases h2 : b = 0
        · rw [if_pos h2]
        · rw [if_neg h2]
          cases h3 : okR w 100
          · rw [bN_f, if_pos rfl]
          · rw [h1, h3] at hb; simp [h2] at hb
    · show bX6_ahead_21 5000 _ u v w b = _
      unfold bX6_ahead_21 bX6_ahead_46
      rw [m_isTreaty, pu_ask, x_fs_n (show 57 ≠ 55 by decide), i1, m_win, pu_ask, m_find0, pu_call]
      cases h1 : okR u (nI (nA a) - 1)
      · rw [bN_f, if_pos rfl]
      · rw [bN_t, if_neg (by decide)]
        by_cases h2 : b = 0
        · rw [if_pos h2]
        · rw [if_neg h2]
          cases h3 : okR w 100
          · rw [bN_f, if_pos rfl]
          · rw [h1, h3] at hb; simp [h2] at hb
  have all : ∀ k, (k < 8 ∨ k = 10) → v = nI k → EV (fun s => bX5_ahead_22 5000 s u v w 1) (fun s => bX6_ahead_21 5000 s u v w 1) σ y := by
    intro k hk e
    cases h1 : okR u (nI (nA a) - 1)
    · exact bad 1 (Or.inl h1)
    · cases h3 : okR w 100
      · exact bad 1 (Or.inr (Or.inr h3))
      · obtain ⟨t, ht, rfl⟩ := okT ha.1.n8 h1
        obtain ⟨m, hm, rfl⟩ := okR_nI (m := 100) (by decide) h3
        rw [e]
        exact e_aheadGo hy h ha ht hk hm
  by_cases v3 : v < 3
  · have v10 : ¬ v = 10 := fun q => by rw [q] at v3; exact absurd v3 (by decide)
    refine (bad 0 (Or.inr (Or.inl rfl))).cast (fun s => ?_) (fun s => ?_)
    · simp only [fX5_ahead, bX5_ahead_11, v3, v10, pu_ask, pu_call, pu_bnd, pu_chk, pu_b0, pu_b1, bN_t, bN_f, bN_c, i10, i00, if_true, if_false]
    · simp only [fX6_ahead, m_winL, v3, v10, pu_ask, pu_call, pu_bnd, pu_chk, pu_b0, pu_b1, bN_t, bN_f, bN_c, i10, i00, if_true, if_false]
  by_cases v7 : v ≤ 7
  · have v7' : ¬ (7 : Int32) < v := Int32.not_lt.mpr v7
    obtain ⟨k, hk, e⟩ := nI_of2 (x := v) (n := 7) (M := 7) rfl (fun q => v3 (by
      rw [Int32.lt_iff_toInt_lt] at q ⊢
      have e1 : (0 : Int32).toInt = 0 := rfl
      have e2 : (3 : Int32).toInt = 3 := rfl
      omega)) v7
    refine (all k (Or.inl (by omega)) e).cast (fun s => ?_) (fun s => ?_)
    · simp only [fX5_ahead, bX5_ahead_17, v3, v7, pu_ask, pu_call, pu_bnd, pu_chk, pu_b0, pu_b1, bN_t, bN_f, bN_c, i10, i00, if_true, if_false]
    · simp only [fX6_ahead, bX6_ahead_16, m_winL, v3, v7', pu_ask, pu_call, pu_bnd, pu_chk, pu_b0, pu_b1, bN_t, bN_f, bN_c, i10, i00, if_true, if_false]
  have v7' : (7 : Int32) < v := Int32.not_le.mp v7
  by_cases v10 : v = 10
  · refine (all 10 (Or.inr rfl) v10).cast (fun s => ?_) (fun s => ?_)
    · simp only [fX5_ahead, bX5_ahead_11, bX5_ahead_17, v3, v7, if_false]; rw [if_pos v10]
    · simp only [fX6_ahead, bX6_ahead_16, m_winL, v3, v7', pu_ask, pu_call, pu_bnd, pu_chk, pu_b0, pu_b1, bN_t, bN_f, bN_c, i10, i00, if_true, if_false]; rw [if_pos v10]
  · refine (bad 0 (Or.inr (Or.inl rfl))).cast (fun s => ?_) (fun s => ?_)
    · simp only [fX5_ahead, bX5_ahead_11, v3, v7, v10, pu_ask, pu_call, pu_bnd, pu_chk, pu_b0, pu_b1, bN_t, bN_f, bN_c, i10, i00, if_true, if_false]
    · simp only [fX6_ahead, m_winL, v3, v7', v10, pu_ask, pu_call, pu_bnd, pu_chk, pu_b0, pu_b1, bN_t, bN_f, bN_c, i10, i00, if_true, if_false]
