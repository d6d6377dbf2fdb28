/-! which figures, struck, keep the treaty -/
def skT (a : AW) (t i : Nat) : Nat → Int32 := upd (a (4 + t)) 3 (a (4 + t) 3 &&& (((1 : Int32) <<< (nI i &&& 31)) ^^^ (-1 : Int32)))
def skB (a : AW) (t m : Nat) : Nat → Int32
  | 0 => 0
  | i + 1 => skB a t m i ||| (alo a (skT a t i) m 4 <<< (nI i &&& 31))
theorem skT_wf {a : AW} {y t i : Nat} (hw : wfA a y) (ht : t < nA a) : wfT (skT a t i) := by
  obtain ⟨h0, h1, h2, hne, h3, h4, h5, h6, h7⟩ := hw.2.2.2.2.2.2.2 t ht
  exact ⟨h0, h1, h2, hne, ps_and h3, h4, h5, h6, h7⟩
theorem sh0' : ∀ t : Nat, t < 12 → (0 : Int32) <<< (nI t &&& 31) = 0 := by decide +kernel
theorem alo_wf {a : AW} {y : Nat} {T : Nat → Int32} (hw : wfA a y) (hT : wfT T) : ∀ k, wfT (alo a T k) := by
  intro k
  induction k with
  | zero => exact hT
  | succ k ih => exact wfT_live ih _ hw.2.1
theorem x_skLoop {a : AW} {y m t : Nat} (hm : m ≤ 60) (hw : wfA a y) (ht : t < nA a) : ∀ (d i fuel : Nat) (σ : mt_St), 12 = i + d → d < fuel → SX a σ 1 → (∀ k, k < m → σ 38 k = upA (yrs k a)) → ∃ f, bX5_strike_33 5000 fuel σ (nI t) (nI m) (skB a t m i) (nI i) = some (skB a t m 12, mt_row σ 37 f) := by
  intro d
  induction d with
  | zero =>
    intro i fuel σ hd hf h hu
    obtain ⟨fuel, rfl⟩ : ∃ q, fuel = q + 1 := ⟨fuel - 1, by omega⟩
    have : i = 12 := by omega
    subst this
    unfold bX5_strike_33
    rw [if_pos (by decide)]
    exact ⟨σ 37, by rw [mt_row_same]⟩
  | succ d ih =>
    intro i fuel σ hd hf h hu
    obtain ⟨fuel, rfl⟩ : ∃ q, fuel = q + 1 := ⟨fuel - 1, by omega⟩
    have hn8 := hw.n8
    obtain ⟨g, g1, g2, g3⟩ := x_tryField (f38 := σ 38) (m := m) (by omega) hw h ht hu
    obtain ⟨l, l1, l2⟩ := g3 3 (a (4 + t) 3 &&& (((1 : Int32) <<< (nI i &&& 31)) ^^^ (-1 : Int32)))
    obtain ⟨f, e1⟩ := ih (i + 1) fuel (mt_row σ 37 l) (by omega) (by omega) (h.same hn8 (fun c p q => mt_row_n (by omega))) (fun k hk => by rw [mt_row_n (by decide)]; exact hu k hk)
    rw [pu_row_row] at e1
    refine ⟨f, ?_⟩
    have l4 : l 4 = alo a (skT a t i) m 4 := l2 4 (by decide)
    unfold bX5_strike_33 bX5_strike_101
    rw [if_neg (show ¬ (12 : Int32) ≤ nI i from nI_ge (b := 12) (by omega) (by decide)), g2, pu_call, pu_bnd, pu_up, mt_row_s, pu_row_row, mt_row_n (show 1 ≠ 37 by decide), h.1.1, g1 3 (by decide), l1, pu_call, mt_row_s, l4, nI_1]
    have hs : skB a t m (i + 1) = skB a t m i ||| (alo a (skT a t i) m 4 <<< (nI i &&& 31)) := rfl
    rw [hs] at e1
    rcases (alo_wf hw (skT_wf (i := i) hw ht) m).2.2.2.2.2.1 with q | q
    · rw [q, sh0' i (by omega), pu_or0] at e1
      rw [q, if_neg (by decide)]; exact e1
    · rw [q] at e1
      rw [q, if_pos rfl]; exact e1
theorem m_skLoop {a : AW} {y m t : Nat} {mk : Int32} (hm : m ≤ 60) (hy : y ≤ 40000) (hw : wfA a y) (ht : t < nA a) (hmk : mk = a (4 + t) 3) : ∀ (d i fuel : Nat) (σ : mt_St), 12 = i + d → d < fuel → (∃ x, SM a (upd (σ 57) (22 + 8 * t + 3) x)) → ∃ σ', bX6_strike_42 5000 fuel σ (nI t) (nI m) (nI (22 + 8 * t + 3)) mk (skB a t m i) (nI i) = some (skB a t m 12, σ') ∧ mq (mt_row σ 57 (upd (σ 57) (22 + 8 * t + 3) mk)) σ' := by
  have hn8 := hw.n8
  intro d
  induction d with
  | zero =>
    intro i fuel σ hd hf h
    obtain ⟨fuel, rfl⟩ : ∃ q, fuel = q + 1 := ⟨fuel - 1, by omega⟩
    have : i = 12 := by omega
    subst this
    unfold bX6_strike_42
    rw [if_pos (by decide), pu_chkP (pu_in (by omega) (by decide)), pu_bnd, nI_clamp (by omega)]
    exact ⟨_, rfl, mq.rf⟩
  | succ d ih =>
    intro i fuel σ hd hf h
    obtain ⟨fuel, rfl⟩ : ∃ q, fuel = q + 1 := ⟨fuel - 1, by omega⟩
    obtain ⟨σ1, e1, f1⟩ := m_fieldBehind (i := 0) (σ := mt_up σ 57 (22 + 8 * t + 3) (a (4 + t) 3 &&& (((1 : Int32) <<< (nI i &&& 31)) ^^^ (-1 : Int32)))) (a := a) (m := m) (T := skT a t i) (j := 4) (hw.treat ht (skT_wf hw ht)) (by omega) (by omega) ht (by omega) (by decide) (by rw [pu_up, mt_row_s]; exact SM.over hn8 ht (by decide) h)
    obtain ⟨x, hx⟩ := h
    obtain ⟨σ2, g1, g2⟩ := ih (i + 1) fuel σ1 (by omega) (by omega) ⟨x, hx.same hn8 (fun k hk => by
      by_cases q : k = 22 + 8 * t + 3
      · subst q; rw [pu_upd_s, pu_upd_s]
      · rw [pu_upd_n q, pu_upd_n q, f1.2.2 k hk, pu_up, mt_row_s, pu_upd_n q])⟩
    refine ⟨σ2, ?_, (mq.over f1).tr g2⟩
    unfold bX6_strike_42
    rw [if_neg (show ¬ (12 : Int32) ≤ nI i from nI_ge (b := 12) (by omega) (by decide)), pu_chkP (pu_in (by omega) (by decide)), pu_bnd, nI_clamp (by omega), m_at4, pu_ask, hmk, e1, pu_call, nI_1, ← hmk]
    exact g1
theorem e_strike {σ : mt_St} {y : Nat} (hy : y ≤ 40000) (h : RR σ y) (u v : Int32) : EV (fun s => fX5_strike 5000 s u v) (fun s => fX6_strike 5000 s u v) σ y := by
  obtain ⟨⟨a, ha⟩, -⟩ := id h
  obtain ⟨i7, i1⟩ := ha.isT
  have hn8 := ha.1.n8
  cases h1 : okR u (nI (nA a) - 1)
  · refine EV.find (w := 0) (by decide) h ?_ ?_
    · simp only [fX5_strike, bX5_strike_17, x_isTreaty, i7, h1, x_find0, pu_ask, pu_call, pu_bnd, pu_chk, pu_b0, pu_b1, bN_t, bN_f, bN_c, i10, i00, if_true, if_false]
    · simp only [fX6_strike, bX6_strike_15, m_isTreaty, x_fs_n (show 57 ≠ 55 by decide), i1, h1, m_find0, pu_ask, pu_call, pu_bnd, pu_chk, pu_b0, pu_b1, bN_t, bN_f, bN_c, i10, i00, if_true, if_false]
  cases h2 : okR v 60
  · refine EV.find (w := 0) (by decide) h ?_ ?_
    · simp only [fX5_strike, bX5_strike_17, x_isTreaty, x_win, i7, h1, h2, x_find0, pu_ask, pu_call, pu_bnd, pu_chk, pu_b0, pu_b1, bN_t, bN_f, bN_c, i10, i00, if_true, if_false]
    · simp only [fX6_strike, bX6_strike_15, m_isTreaty, m_isThought, x_fs_n (show 57 ≠ 55 by decide), i1, h1, h2, m_find0, pu_ask, pu_call, pu_bnd, pu_chk, pu_b0, pu_b1, bN_t, bN_f, bN_c, i10, i00, if_true, if_false]
  obtain ⟨t, ht, rfl⟩ := okT ha.1.n8 h1
  obtain ⟨m, hm, rfl⟩ := okR_nI (m := 60) (by decide) h2
  obtain ⟨f, e1, u1⟩ := x_fore (m := m) (by omega) hy ha.1 ha.2.1
  have s1 : SX a (mt_row σ 38 f) 1 := ha.2.1.same hn8 (fun c p q => mt_row_n (by omega))
  obtain ⟨g, e2⟩ := x_skLoop (m := m) hm ha.1 ht 12 0 5000 (mt_row σ 38 f) (by omega) (by omega) s1 (fun k hk => by rw [mt_row_s]; exact u1 k hk)
  have c57 : mt_row (mt_row σ 38 f) 37 g 57 = σ 57 := by rw [mt_row_n (by decide), mt_row_n (by decide)]
  obtain ⟨σ2, e3, f3⟩ := m_skLoop (mk := σ 57 (22 + 8 * t + 3)) (m := m) hm hy ha.1 ht (ha.mT ht 3 (by decide)) 12 0 5000 (mt_row (mt_row σ 38 f) 37 g) (by omega) (by omega) ⟨σ 57 (22 + 8 * t + 3), by rw [c57, upd_at]; exact ha.2.2⟩
  have hself : mt_row (mt_row (mt_row σ 38 f) 37 g) 57 (upd (mt_row (mt_row σ 38 f) 37 g 57) (22 + 8 * t + 3) (σ 57 (22 + 8 * t + 3))) = mt_row (mt_row σ 38 f) 37 g := by
    rw [c57, upd_at, ← c57, mt_row_same]
  rw [hself] at f3
  refine EV.quiet (r := skB a t m 12) h (σ1 := mt_row (mt_row σ 38 f) 37 g) (σ2 := σ2) ?_ ?_ ((quiet.row (by omega)).tr (quiet.row (by omega))) f3.quiet
  · simp only [fX5_strike, x_isTreaty, x_win, i7, h1, h2, e1, pu_ask, pu_call, pu_bnd, pu_chk, pu_b0, pu_b1, bN_t, bN_f, bN_c, i10, i00, if_true, if_false]
    exact e2
  · simp only [fX6_strike, m_isTreaty, m_isThought, c57, i1, h1, h2, m_at3, pu_in (show 22 + 8 * t + 3 < 86 by omega) (show 86 < 2 ^ 31 by decide), nI_clamp (show 22 + 8 * t + 3 < 2 ^ 31 by omega), pu_ask, pu_call, pu_bnd, pu_chk, pu_b0, pu_b1, bN_t, bN_f, bN_c, i10, i00, if_true, if_false]
    exact e3
