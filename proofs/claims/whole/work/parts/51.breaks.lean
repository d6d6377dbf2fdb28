theorem x_brkLoop {a : AW} {T : Nat → Int32} {v : Int32} {P : Nat → Bool} (hP : ∀ i, i ≤ 200 → (¬ alo a T i 7 ≤ v ↔ P i = true)) : ∀ (d i fuel : Nat) (σ : mt_St), 200 = i + d → d + 1 < fuel → P i = false → tE (σ 37) (alo a T i) → (∀ k, k < 200 → σ 38 k = upA (yrs k a)) → σ 1 0 = a 0 0 → ∃ f, (∀ k, fk P d i = nI k → k ≤ 200 → bX5_breaks_36 5000 fuel σ v (nI (i + 1)) = some (nI k, mt_row σ 37 f)) ∧ (fk P d i = -1 → bX5_breaks_36 5000 fuel σ v (nI (i + 1)) = some (-1000001 - nI 3, x_fs (mt_row σ 37 f) 3)) := by
  intro d
  induction d with
  | zero =>
    intro i fuel σ hd hf hp h hu h0
    obtain ⟨fuel, rfl⟩ : ∃ q, fuel = q + 1 := ⟨fuel - 1, by omega⟩
    have : i = 200 := by omega
    subst this
    refine ⟨σ 37, fun k hk hk2 => ?_, fun hk => ?_⟩
    · unfold fk at hk
      rw [hp, if_neg (by decide)] at hk
      exact absurd (show (-1 : Int32) < 0 by decide) (by rw [hk]; exact nI_pos (by omega))
    · unfold bX5_breaks_36
      rw [if_pos (by decide), x_find3, pu_call, mt_row_same]
  | succ d ih =>
    intro i fuel σ hd hf hp h hu h0
    obtain ⟨fuel, rfl⟩ : ∃ q, fuel = q + 1 := ⟨fuel - 1, by omega⟩
    have hl : tE (liveT (σ 37) (upA (yrs i a)) (a 0 0)) (alo a T (i + 1)) := tE_live h _ _
    have efk : fk P (d + 1) i = fk P d (i + 1) := by conv => lhs; unfold fk
                                                     rw [hp, if_neg (by decide)]
    have stp : bX5_breaks_36 5000 (fuel + 1) σ v (nI (i + 1)) = if alo a T (i + 1) 7 ≤ v then bX5_breaks_36 5000 fuel (mt_row σ 37 (liveT (σ 37) (upA (yrs i a)) (a 0 0))) v (nI (i + 1 + 1)) else some (nI (i + 1), mt_row σ 37 (liveT (σ 37) (upA (yrs i a)) (a 0 0))) := by
      conv => lhs; unfold bX5_breaks_36
      rw [if_neg (show ¬ (200 : Int32) < nI (i + 1) from nI_nlt (show i + 1 ≤ 200 by omega) (by decide)), nI_pred, pu_chkP (pu_in (by omega) (by decide)), nI_clamp (by omega), hu i (by omega), h0, x_live, pu_call, mt_row_s, hl 7 (by decide), nI_1]
    rw [efk]
    cases q : P (i + 1)
    · have q2 : alo a T (i + 1) 7 ≤ v := Decidable.byContradiction (fun z => by rw [(hP (i + 1) (by omega)).mp z] at q; cases q)
      obtain ⟨f, e1, e2⟩ := ih (i + 1) fuel (mt_row σ 37 (liveT (σ 37) (upA (yrs i a)) (a 0 0))) (by omega) (by omega) q (by rw [mt_row_s]; exact hl) (fun k hk => by rw [mt_row_n (by decide)]; exact hu k hk) (by rw [mt_row_n (by decide)]; exact h0)
      rw [pu_row_row] at e1 e2
      refine ⟨f, fun k hk hk2 => ?_, fun hk => ?_⟩
      · rw [stp, if_pos q2]; exact e1 k hk hk2
      · rw [stp, if_pos q2]; exact e2 hk
    · have q2 : ¬ alo a T (i + 1) 7 ≤ v := (hP (i + 1) (by omega)).mpr q
      have e : fk P d (i + 1) = nI (i + 1) := by cases d <;> (unfold fk; rw [q, if_pos rfl])
      refine ⟨liveT (σ 37) (upA (yrs i a)) (a 0 0), fun k hk hk2 => ?_, fun hk => ?_⟩
      · rw [stp, if_neg q2, ← hk, e]
      · rw [e] at hk
        exact absurd (show (-1 : Int32) < 0 by decide) (by rw [← hk]; exact nI_pos (by omega))
theorem i10' : ¬ (1 : Int32) = 0 := by decide
theorem e_breaks {σ : mt_St} {y : Nat} (hy : y ≤ 40000) (h : RR σ y) (u : Int32) : EV (fun s => fX5_breaks 5000 s u) (fun s => fX6_breaks 5000 s u) σ y := by
  obtain ⟨⟨a, ha⟩, -⟩ := id h
  obtain ⟨i7, i1⟩ := ha.isT
  have hn8 := ha.1.n8
  cases h1 : okR u (nI (nA a) - 1)
  · refine EV.find (w := 0) (by decide) h ?_ ?_
    · simp only [fX5_breaks, x_isTreaty, i7, h1, x_find0, pu_ask, pu_call, pu_bnd, pu_chk, pu_b0, pu_b1, bN_t, bN_f, bN_c, i10, i00, if_true, if_false]
    · simp only [fX6_breaks, bX6_breaks_40, m_isTreaty, x_fs_n (show 57 ≠ 55 by decide), i1, h1, m_find0, pu_ask, pu_call, pu_bnd, pu_chk, pu_b0, pu_b1, bN_t, bN_f, bN_c, i10, i00, if_true, if_false]
  obtain ⟨t, ht, rfl⟩ := okT ha.1.n8 h1
  obtain ⟨b, hb, eb⟩ := (ha.wT ht).2.2.2.2.2.2.2.2
  have hx := x_fore (m := 200) (by omega) hy ha.1 ha.2.1
  rw [show nI 200 = (200 : Int32) from rfl] at hx
  obtain ⟨f, e1, u1⟩ := hx
  have s1 : SX a (mt_row σ 38 f) 1 := ha.2.1.same hn8 (fun c p q => mt_row_n (by omega))
  obtain ⟨g, e2, t2⟩ := x_try ha.1 s1 ht
  have hg7 : g 7 = nI b := (t2 7 (by decide)).trans eb
  have hP0 : (fun i => decide (¬ alo a (a (4 + t)) i 7 ≤ nI b)) 0 = false := by
    have e0 : alo a (a (4 + t)) 0 7 = nI b := eb
    have e9 : ¬ ¬ alo a (a (4 + t)) 0 7 ≤ nI b := fun z => z (by rw [e0]; exact Int32.le_refl _)
    exact decide_eq_false e9
  have e01 : nI (0 + 1) = (1 : Int32) := rfl
  obtain ⟨l, l1, l2⟩ := x_brkLoop (a := a) (T := a (4 + t)) (v := nI b) (P := fun i => decide (¬ alo a (a (4 + t)) i 7 ≤ nI b)) (fun i _ => by simp) 200 0 5000 (mt_row (mt_row σ 38 f) 37 g) (by omega) (by omega) hP0 (by rw [mt_row_s]; exact t2) (fun k hk => by rw [mt_row_n (by decide), mt_row_s]; exact u1 k hk) (by rw [mt_row_n (by decide), mt_row_n (by decide)]; exact ha.2.1.1.1)
  refine ev_search (P := fun i => decide (¬ alo a (a (4 + t)) i 7 ≤ nI b)) h (σ1 := mt_row (mt_row (mt_row σ 38 f) 37 g) 37 l) (((quiet.row (by omega)).tr (quiet.row (by omega))).tr (quiet.row (by omega))) ⟨fun k hk e => ?_, fun e => ?_⟩ (fun s hs => ?_)
  · show fX5_breaks 5000 σ (nI t) = _
    unfold fX5_breaks
    rw [x_isTreaty, pu_ask, i7, h1, bN_t, if_neg i10', e1, pu_call, e2, pu_call, mt_row_s, hg7]
    have := l1 k e hk
    rw [e01] at this
    rw [this]
  · show fX5_breaks 5000 σ (nI t) = _
    unfold fX5_breaks
    rw [x_isTreaty, pu_ask, i7, h1, bN_t, if_neg i10', e1, pu_call, e2, pu_call, mt_row_s, hg7]
    have := l2 e
    rw [e01] at this
    rw [this]
  · have s57 : s 57 = σ 57 := by
      rcases hs with rfl | rfl
      · rw [mt_row_n (by decide), mt_row_n (by decide), mt_row_n (by decide)]
      · rw [x_fs_n (by decide), mt_row_n (by decide), mt_row_n (by decide), mt_row_n (by decide)]
    have m7 : gT (σ 57) t 7 = nI b := (ha.mT ht 7 (by decide)).trans eb
    obtain ⟨s', g1, g2⟩ := m_yearsTo (a := a) (j := 22 + 8 * t + 7) (v := nI (b + 1)) (σ := s) (P := fun i => decide (¬ alo a (a (4 + t)) i 7 ≤ nI b)) hy ha.1 (by omega) (by rw [s57]; exact ha.2.2) (fun i r hi hr => by
      have := hr.2.2.2 t (by rw [nA_yrs]; exact ht) 7 (by decide)
      have e : r (22 + 8 * t + 7) = alo a (a (4 + t)) i 7 := by rw [← yrs_alo' ht]; exact this
      rw [e]
      simp only [decide_eq_true_eq]
      rw [Int32.le_iff_toInt_le, Int32.le_iff_toInt_le, nI_toInt (by omega), nI_toInt (by omega)]
      omega)
    refine ⟨s', g2.quiet, ?_⟩
    simp only [fX6_breaks, bX6_breaks_40, m_isTreaty, s57, i1, h1, m_at7, m_is7 5000 s (show t < 8 by omega), m7, nI_1, g1, pu_ask, pu_call, pu_bnd, pu_chk, pu_b0, pu_b1, bN_t, bN_f, bN_c, i10, i00, if_true, if_false]
/-! what a changed treaty comes to -/
theorem m_fieldBehind {σ : mt_St} {a : AW} {y m t i j : Nat} {T : Nat → Int32} (hw : wfA (mt_row a (4 + t) T) y) (hy : y < 2 ^ 29) (hm : m < 5000) (ht : t < nA a) (ht8 : t < 8) (hj : j < 8) (h : SM (mt_row a (4 + t) T) (σ 57)) : ∃ σ', fX6_behind 5000 σ (nI (22 + 8 * t + j)) (nI m) = some (alo a T m j, σ') ∧ mq σ σ' := by
  obtain ⟨r, σ1, e1, s1, f1⟩ := m_behind (σ := σ) (i := 22 + 8 * t + j) (m := m) hw hy hm (by omega) h
  refine ⟨σ1, ?_, f1⟩
  rw [e1]
  have := s1.2.2.2 t (by rw [nA_yrs, nA_treat]; exact ht) j hj
  have e : r (22 + 8 * t + j) = alo a T m j := by rw [← yrs_alo ht]; exact this
  rw [e]
/-- the class tries the treaty alone with one field changed -/
theorem x_tryField {σ : mt_St} {a : AW} {y m t : Nat} {f38 : Nat → Int32} (hm : m ≤ 200) (hw : wfA a y) (h : SX a σ 1) (ht : t < nA a) (hu : ∀ k, k < m → σ 38 k = upA (yrs k a)) : ∃ g, tE g (a (4 + t)) ∧ fX5_tryAlone 5000 σ (nI t) = some ((), mt_row σ 37 g) ∧ ∀ (k : Nat) (v : Int32), ∃ l, fX3_liveYears 5000 (mt_row σ 37 (upd g k v)) 37 (nI m) (a 0 0) = some (alG a (upd (a (4 + t)) k v) m, mt_row σ 37 l) ∧ tE l (alo a (upd (a (4 + t)) k v) m) := by
  obtain ⟨g, e1, e2⟩ := x_try hw h ht
  refine ⟨g, e2, e1, fun k v => ?_⟩
  obtain ⟨l, e3, e4⟩ := x_lv (a := a) (T := upd (a (4 + t)) k v) (m := m) (σ := mt_row σ 37 (upd g k v)) hm (by rw [mt_row_s]; exact tE_upd e2 k v) (fun k hk => by rw [mt_row_n (by decide)]; exact hu k hk)
  exact ⟨l, by rw [pu_row_row] at e3; exact e3, e4⟩
/-! the kind that breaks least -/
def kdV (a : AW) (t m i : Nat) : Int32 := alo a (upd (a (4 + t)) 0 (nI i)) m 7
def kdB (a : AW) (t m : Nat) : Nat → Int32 × Int32
  | 0 => (0, 10000)
  | i + 1 => if (kdB a t m i).2 ≤ kdV a t m i then kdB a t m i else (nI i, kdV a t m i)
theorem kdB_s (a : AW) (t m i : Nat) : kdB a t m (i + 1) = if (kdB a t m i).2 ≤ kdV a t m i then kdB a t m i else (nI i, kdV a t m i) := rfl
theorem x_kdLoop {a : AW} {y m t : Nat} (hm : m ≤ 60) (hw : wfA a y) (ht : t < nA a) : ∀ (d i fuel : Nat) (σ : mt_St), 7 = i + d → d < fuel → SX a σ 1 → (∀ k, k < m → σ 38 k = upA (yrs k a)) → ∃ f, bX5_kindFor_38 5000 fuel σ (nI t) (nI m) (kdB a t m i).1 (kdB a t m i).2 (nI i) = some ((kdB a t m 7).1, mt_row σ 37 f) := by
  intro d
  induction d with
  | zero =>
    intro i fuel σ hd hf h hu
    obtain ⟨fuel, rfl⟩ : ∃ q, fuel = q + 1 := ⟨fuel - 1, by omega⟩
    have : i = 7 := by omega
    subst this
    unfold bX5_kindFor_38
    rw [if_pos (by decide)]
    exact ⟨σ 37, by rw [mt_row_same]⟩
  | succ d ih =>
    intro i fuel σ hd hf h hu
    obtain ⟨fuel, rfl⟩ : ∃ q, fuel = q + 1 := ⟨fuel - 1, by omega⟩
    have hn8 := hw.n8
    obtain ⟨g, g1, g2, g3⟩ := x_tryField (f38 := σ 38) (m := m) (by omega) hw h ht hu
    obtain ⟨l, l1, l2⟩ := g3 0 (nI i)
    obtain ⟨f, e1⟩ := ih (i + 1) fuel (mt_row σ 37 l) (by omega) (by omega) (h.same hn8 (fun c p q => mt_row_n (by omega))) (fun k hk => by rw [mt_row_n (by decide)]; exact hu k hk)
    rw [pu_row_row, kdB_s] at e1
    refine ⟨f, ?_⟩
    unfold bX5_kindFor_38 bX5_kindFor_103
    rw [if_neg (show ¬ (7 : Int32) ≤ nI i from nI_ge (b := 7) (by omega) (by decide)), g2, pu_call, pu_bnd, pu_up, mt_row_s, pu_row_row, mt_row_n (show 1 ≠ 37 by decide), h.1.1, l1, pu_call, mt_row_s, l2 7 (by decide), nI_1]
    by_cases q : (kdB a t m i).2 ≤ kdV a t m i
    · rw [if_pos q] at e1
      rw [if_pos (show (kdB a t m i).2 ≤ alo a (upd (a (4 + t)) 0 (nI i)) m 7 from q)]; exact e1
    · rw [if_neg q] at e1
      rw [if_neg (show ¬ (kdB a t m i).2 ≤ alo a (upd (a (4 + t)) 0 (nI i)) m 7 from q)]; exact e1
theorem aw_row2 (a : AW) (t : Nat) (S T : Nat → Int32) : mt_row (mt_row a (4 + t) S) (4 + t) T = mt_row a (4 + t) T := pu_row_row a (4 + t) S T
/-- the row with one number of treaty t written over -/
theorem SM.over {a : AW} {r : Nat → Int32} {t k : Nat} {v : Int32} (hn8 : nA a ≤ 8) (ht : t < nA a) (hk : k < 8) (h : ∃ x, SM a (upd r (22 + 8 * t + k) x)) : SM (mt_row a (4 + t) (upd (a (4 + t)) k v)) (upd r (22 + 8 * t + k) v) := by
  obtain ⟨x, hx⟩ := h
  have := hx.field (v := v) ht hk
  refine this.same (by rw [nA_treat]; exact hn8) (fun j hj => ?_)
  by_cases q : j = 22 + 8 * t + k
  · subst q; rw [pu_upd_s, pu_upd_s]
  · rw [pu_upd_n q, pu_upd_n q, pu_upd_n q]
theorem mq.over {s s' : mt_St} {j : Nat} {v w : Int32} (f : mq (mt_up s 57 j v) s') : mq (mt_row s 57 (upd (s 57) j w)) (mt_row s' 57 (upd (s' 57) j w)) := by
  refine ⟨fun c p q r => ?_, fun k hk => ?_, fun k hk => ?_⟩
  · rw [mt_row_n q, mt_row_n q, f.1 c p q r, pu_up, mt_row_n q]
  · rw [mt_row_n (by decide), mt_row_n (by decide), f.2.1 k hk, pu_up, mt_row_n (by decide)]
  · rw [mt_row_s, mt_row_s]
    by_cases q : k = j
    · subst q; rw [pu_upd_s, pu_upd_s]
    · rw [pu_upd_n q, pu_upd_n q, f.2.2 k hk, pu_up, mt_row_s, pu_upd_n q]
theorem upd_upd (f : Nat → Int32) (k : Nat) (v w : Int32) : upd (upd f k v) k w = upd f k w := by
  funext j; unfold upd; split <;> rfl
theorem upd_at (f : Nat → Int32) (k : Nat) : upd f k (f k) = f := by
  funext j; unfold upd; split <;> simp_all
theorem m_kdLoop {a : AW} {y m t : Nat} {kd : Int32} (hm : m ≤ 60) (hy : y ≤ 40000) (hw : wfA a y) (ht : t < nA a) : ∀ (d i fuel : Nat) (σ : mt_St), 7 = i + d → d < fuel → (∃ x, SM a (upd (σ 57) (22 + 8 * t + 0) x)) → ∃ σ', bX6_kindFor_47 5000 fuel σ (nI t) (nI m) (nI (22 + 8 * t + 0)) kd (kdB a t m i).1 (kdB a t m i).2 (nI i) = some ((kdB a t m 7).1, σ') ∧ mq (mt_row σ 57 (upd (σ 57) (22 + 8 * t + 0) kd)) σ' := by
  have hn8 := hw.n8
  intro d
  induction d with
  | zero =>
    intro i fuel σ hd hf h
    obtain ⟨fuel, rfl⟩ : ∃ q, fuel = q + 1 := ⟨fuel - 1, by omega⟩
    have : i = 7 := by omega
    subst this
    unfold bX6_kindFor_47
    rw [if_pos (by decide), pu_chkP (pu_in (by omega) (by decide)), pu_bnd, nI_clamp (by omega)]
    exact ⟨_, rfl, mq.rf⟩
  | succ d ih =>
    intro i fuel σ hd hf h
    obtain ⟨fuel, rfl⟩ : ∃ q, fuel = q + 1 := ⟨fuel - 1, by omega⟩
    have wT : wfT (upd (a (4 + t)) 0 (nI i)) := (hw.2.2.2.2.2.2.2 t ht).takes (by decide) (show okR (nI i) 6 = true from okR_of (m := 6) (by omega) (by decide))
    obtain ⟨σ1, e1, f1⟩ := m_fieldBehind (i := 0) (σ := mt_up σ 57 (22 + 8 * t + 0) (nI i)) (a := a) (m := m) (T := upd (a (4 + t)) 0 (nI i)) (j := 7) (hw.treat ht wT) (by omega) (by omega) ht (by omega) (by decide) (by rw [pu_up, mt_row_s]; exact SM.over hn8 ht (by decide) h)
    obtain ⟨x, hx⟩ := h
    obtain ⟨σ2, g1, g2⟩ := ih (i + 1) fuel σ1 (by omega) (by omega) ⟨x, hx.same hn8 (fun k hk => by
      by_cases q : k = 22 + 8 * t + 0
      · subst q; rw [pu_upd_s, pu_upd_s]
      · rw [pu_upd_n q, pu_upd_n q, f1.2.2 k hk, pu_up, mt_row_s, pu_upd_n q])⟩
    refine ⟨σ2, ?_, (mq.over f1).tr g2⟩
    unfold bX6_kindFor_47 bX6_kindFor_90
    rw [if_neg (show ¬ (6 : Int32) < nI i from nI_nlt (show i ≤ 6 by omega) (by decide)), pu_chkP (pu_in (by omega) (by decide)), pu_bnd, nI_clamp (by omega), m_at7, pu_ask, e1, pu_call, nI_1]
    rw [kdB_s] at g1
    by_cases q : (kdB a t m i).2 ≤ kdV a t m i
    · rw [if_pos q] at g1
      rw [if_pos (show (kdB a t m i).2 ≤ alo a (upd (a (4 + t)) 0 (nI i)) m 7 from q)]; exact g1
    · rw [if_neg q] at g1
      rw [if_neg (show ¬ (kdB a t m i).2 ≤ alo a (upd (a (4 + t)) 0 (nI i)) m 7 from q)]; exact g1
theorem e_kindFor {σ : mt_St} {y : Nat} (hy : y ≤ 40000) (h : RR σ y) (u v : Int32) : EV (fun s => fX5_kindFor 5000 s u v) (fun s => fX6_kindFor 5000 s u v) σ y := by
  obtain ⟨⟨a, ha⟩, -⟩ := id h
  obtain ⟨i7, i1⟩ := ha.isT
  have hn8 := ha.1.n8
  cases h1 : okR u (nI (nA a) - 1)
  · refine EV.find (w := 0) (by decide) h ?_ ?_
    · simp only [fX5_kindFor, bX5_kindFor_17, x_isTreaty, i7, h1, x_find0, pu_ask, pu_call, pu_bnd, pu_chk, pu_b0, pu_b1, bN_t, bN_f, bN_c, i10, i00, if_true, if_false]
    · simp only [fX6_kindFor, bX6_kindFor_15, m_isTreaty, x_fs_n (show 57 ≠ 55 by decide), i1, h1, m_find0, pu_ask, pu_call, pu_bnd, pu_chk, pu_b0, pu_b1, bN_t, bN_f, bN_c, i10, i00, if_true, if_false]
  cases h2 : okR v 60
  · refine EV.find (w := 0) (by decide) h ?_ ?_
    · simp only [fX5_kindFor, bX5_kindFor_17, x_isTreaty, x_win, i7, h1, h2, x_find0, pu_ask, pu_call, pu_bnd, pu_chk, pu_b0, pu_b1, bN_t, bN_f, bN_c, i10, i00, if_true, if_false]
    · simp only [fX6_kindFor, bX6_kindFor_15, m_isTreaty, m_isThought, x_fs_n (show 57 ≠ 55 by decide), i1, h1, h2, m_find0, pu_ask, pu_call, pu_bnd, pu_chk, pu_b0, pu_b1, bN_t, bN_f, bN_c, i10, i00, if_true, if_false]
  obtain ⟨t, ht, rfl⟩ := okT ha.1.n8 h1
  obtain ⟨m, hm, rfl⟩ := okR_nI (m := 60) (by decide) h2
  obtain ⟨f, e1, u1⟩ := x_fore (m := m) (by omega) hy ha.1 ha.2.1
  have s1 : SX a (mt_row σ 38 f) 1 := ha.2.1.same hn8 (fun c p q => mt_row_n (by omega))
  obtain ⟨g, e2⟩ := x_kdLoop (m := m) hm ha.1 ht 7 0 5000 (mt_row σ 38 f) (by omega) (by omega) s1 (fun k hk => by rw [mt_row_s]; exact u1 k hk)
  have c57 : mt_row (mt_row σ 38 f) 37 g 57 = σ 57 := by rw [mt_row_n (by decide), mt_row_n (by decide)]
  obtain ⟨σ2, e3, f3⟩ := m_kdLoop (kd := σ 57 (22 + 8 * t + 0)) (m := m) hm hy ha.1 ht 7 0 5000 (mt_row (mt_row σ 38 f) 37 g) (by omega) (by omega) ⟨σ 57 (22 + 8 * t + 0), by rw [c57, upd_at]; exact ha.2.2⟩
  have hself : mt_row (mt_row (mt_row σ 38 f) 37 g) 57 (upd (mt_row (mt_row σ 38 f) 37 g 57) (22 + 8 * t + 0) (σ 57 (22 + 8 * t + 0))) = mt_row (mt_row σ 38 f) 37 g := by
    rw [c57, upd_at, ← c57, mt_row_same]
  rw [hself] at f3
  refine EV.quiet (r := (kdB a t m 7).1) h (σ1 := mt_row (mt_row σ 38 f) 37 g) (σ2 := σ2) ?_ ?_ ((quiet.row (by omega)).tr (quiet.row (by omega))) f3.quiet
  · simp only [fX5_kindFor, x_isTreaty, x_win, i7, h1, h2, e1, pu_ask, pu_call, pu_bnd, pu_chk, pu_b0, pu_b1, bN_t, bN_f, bN_c, i10, i00, if_true, if_false]
    exact e2
  · simp only [fX6_kindFor, m_isTreaty, m_isThought, c57, i1, h1, h2, m_at0, pu_in (show 22 + 8 * t + 0 < 86 by omega) (show 86 < 2 ^ 31 by decide), nI_clamp (show 22 + 8 * t + 0 < 2 ^ 31 by omega), pu_ask, pu_call, pu_bnd, pu_chk, pu_b0, pu_b1, bN_t, bN_f, bN_c, i10, i00, if_true, if_false]
    exact e3
