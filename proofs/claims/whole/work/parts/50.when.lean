/-! searches ahead -/
def fk (P : Nat → Bool) : Nat → Nat → Int32
  | 0, i => if P i = true then nI i else -1
  | d + 1, i => if P i = true then nI i else fk P d (i + 1)
theorem fk_cases (P : Nat → Bool) : ∀ d i, fk P d i = -1 ∨ ∃ k, k ≤ i + d ∧ fk P d i = nI k := by
  intro d
  induction d with
  | zero =>
    intro i
    unfold fk
    split
    · exact Or.inr ⟨i, by omega, rfl⟩
    · exact Or.inl rfl
  | succ d ih =>
    intro i
    unfold fk
    split
    · exact Or.inr ⟨i, by omega, rfl⟩
    · rcases ih (i + 1) with q | ⟨k, hk, q⟩
      · exact Or.inl q
      · exact Or.inr ⟨k, by omega, q⟩
theorem fk_congr {P Q : Nat → Bool} : ∀ d i, (∀ k, i ≤ k → k ≤ i + d → P k = Q k) → fk P d i = fk Q d i := by
  intro d
  induction d with
  | zero => intro i h; unfold fk; rw [h i (by omega) (by omega)]
  | succ d ih => intro i h; unfold fk; rw [h i (by omega) (by omega), ih (i + 1) (fun k p q => h k (by omega) (by omega))]
/-- the reference's search over whole worlds -/
theorem m_toLoop {a : AW} {y j : Nat} {v : Int32} {s0 : mt_St} {P : Nat → Bool} (hy : y ≤ 40000) (hw : wfA a y) (hj : j < 86) (hs : ∀ k, k < 86 → s0 59 k = s0 57 k) (hP : ∀ i (r : Nat → Int32), i ≤ 200 → SM (yrs i a) r → (v ≤ r j ↔ P i = true)) : ∀ (d i fuel : Nat) (σ : mt_St), 200 = i + d → d < fuel → SM (yrs i a) (σ 57) → frM s0 σ → ∃ σ', bX6_yearsTo_13 5000 fuel σ (nI j) v (nI i) = some (fk P d i, σ') ∧ (∀ c, c ≠ 56 → c ≠ 57 → σ' c = s0 c) ∧ (∀ k, k ≠ 5 → σ' 56 k = s0 56 k) ∧ ∀ k, k < 86 → σ' 57 k = s0 57 k := by
  have fin : ∀ (σ : mt_St) (x : Int32), frM s0 σ → ∃ σ', bX6_yearsTo_56 5000 σ x = some (x, σ') ∧ (∀ c, c ≠ 56 → c ≠ 57 → σ' c = s0 c) ∧ (∀ k, k ≠ 5 → σ' 56 k = s0 56 k) ∧ ∀ k, k < 86 → σ' 57 k = s0 57 k := by
    intro σ x h
    obtain ⟨q, e1, e2⟩ := m_copy (a1 := 59) (a2 := 57) (by decide) σ
    refine ⟨mt_row σ 57 q, ?_, fun c p s => by rw [mt_row_n s, h.1 c s p], fun k hk => by rw [mt_row_n (by decide), h.2 k hk], fun k hk => by rw [mt_row_s, e2 k hk, h.1 59 (by decide) (by decide), hs k hk]⟩
    unfold bX6_yearsTo_56 fX6_putBack
    rw [e1, pu_call, pu_call]
  intro d
  induction d with
  | zero =>
    intro i fuel σ hd hf h hfr
    obtain ⟨fuel, rfl⟩ : ∃ q, fuel = q + 1 := ⟨fuel - 1, by omega⟩
    have : i = 200 := by omega
    subst this
    unfold bX6_yearsTo_13 bX6_yearsTo_40 fk
    rw [if_pos (by decide), pu_chkP (pu_in hj (by decide)), nI_clamp (by omega)]
    by_cases q : v ≤ σ 57 j
    · rw [if_pos q, if_pos ((hP 200 _ (by omega) h).mp q)]
      exact fin σ _ hfr
    · rw [if_neg q, if_neg (fun z => q ((hP 200 _ (by omega) h).mpr z))]
      exact fin σ _ hfr
  | succ d ih =>
    intro i fuel σ hd hf h hfr
    obtain ⟨fuel, rfl⟩ : ∃ q, fuel = q + 1 := ⟨fuel - 1, by omega⟩
    unfold bX6_yearsTo_13 bX6_yearsTo_40 fk
    rw [if_neg (show ¬ (200 : Int32) ≤ nI i from nI_ge (b := 200) (by omega) (by decide)), pu_chkP (pu_in hj (by decide)), pu_chkP (pu_in hj (by decide)), nI_clamp (by omega)]
    by_cases q : v ≤ σ 57 j
    · rw [if_pos q, if_pos q, if_pos ((hP i _ (by omega) h).mp q)]
      exact fin σ _ hfr
    · obtain ⟨σ1, p1, p2, p3, -⟩ := m_year (a := yrs i a) (y := y + i) (σ := σ) (by omega) (wf_yrs i (by omega) hw) h
      rw [if_neg q, if_neg (fun z => q ((hP i _ (by omega) h).mpr z)), p1, pu_call, nI_1]
      exact ih (i + 1) fuel σ1 (by omega) (by omega) p2 (hfr.tr p3)
theorem m_yearsTo {a : AW} {y j : Nat} {v : Int32} {σ : mt_St} {P : Nat → Bool} (hy : y ≤ 40000) (hw : wfA a y) (hj : j < 86) (h : SM a (σ 57)) (hP : ∀ i (r : Nat → Int32), i ≤ 200 → SM (yrs i a) r → (v ≤ r j ↔ P i = true)) : ∃ σ', fX6_yearsTo 5000 σ (nI j) v = some (fk P 200 0, σ') ∧ mq σ σ' := by
  obtain ⟨r, c1, c2⟩ := m_copy (a1 := 57) (a2 := 59) (by decide) σ
  obtain ⟨σ', e1, e2, e3, e4⟩ := m_toLoop (s0 := mt_row σ 59 r) (v := v) (P := P) hy hw hj (fun k hk => by rw [mt_row_s, mt_row_n (by decide)]; exact c2 k hk) hP 200 0 5000 (mt_row σ 59 r) (by omega) (by omega) (by rw [mt_row_n (by decide)]; exact h) frM.rf
  refine ⟨σ', ?_, fun c p q s => by rw [e2 c p q, mt_row_n s], fun k hk => by rw [e3 k hk, mt_row_n (by decide)], fun k hk => by rw [e4 k hk, mt_row_n (by decide)]⟩
  unfold fX6_yearsTo
  rw [c1, pu_call]
  exact e1
theorem quiet.mfs {σ σ' : mt_St} {w : Nat} (h : quiet σ σ') : quiet (m_fs σ w) (m_fs σ' w) := by
  have e60 : σ' 60 = σ 60 := h.1 60 (by omega) (by decide) (by decide) (by decide) (by decide) (by decide)
  refine ⟨fun c a b d e f g => ?_, ?_, ?_, ?_, fun k hk => ?_⟩
  · unfold m_fs
    rw [e60]
    by_cases q : c = 60
    · subst q; rw [mt_row_s, mt_row_s]
    · rw [mt_row_n q, mt_row_n q]; exact h.1 c a b d e f g
  · unfold m_fs; rw [mt_row_n (by decide), mt_row_n (by decide)]; exact h.2.1
  · unfold m_fs; rw [mt_row_n (by decide), mt_row_n (by decide)]; exact h.2.2.1
  · unfold m_fs; rw [mt_row_n (by decide), mt_row_n (by decide)]; exact h.2.2.2.1
  · unfold m_fs; rw [mt_row_n (by decide), mt_row_n (by decide)]; exact h.2.2.2.2 k hk
theorem ev_findq {f g : mt_St → Option (Int32 × mt_St)} {σ σ1 σ2 : mt_St} {y w : Nat} (hw : w < 7) (h : RR σ y) (q1 : quiet σ σ1) (hf : f σ = some (-1000001 - nI w, x_fs σ1 w)) (q2 : quiet (x_fs σ1 w) σ2) (hg : g (x_fs σ1 w) = some (-1000001 - nI w, m_fs σ2 w)) : EV f g σ y := ⟨_, _, _, hf, hg, ((h.quiet q1).find hw).quiet q2.mfs⟩
/-- what comes of a search: a year, or the finding 3 -/
theorem ev_search {f g : mt_St → Option (Int32 × mt_St)} {σ σ1 : mt_St} {y : Nat} {P : Nat → Bool} (h : RR σ y) (q1 : quiet σ σ1) (hf : (∀ k, k ≤ 200 → fk P 200 0 = nI k → f σ = some (nI k, σ1)) ∧ (fk P 200 0 = -1 → f σ = some (-1000001 - nI 3, x_fs σ1 3))) (hg : ∀ s : mt_St, (s = σ1 ∨ s = x_fs σ1 3) → ∃ s', quiet s s' ∧ g s = mt_call (fX6_orNone 5000 s' (fk P 200 0)) fun r s => some (r, s)) : EV f g σ y := by
  rcases fk_cases P 200 0 with e | ⟨k, hk, e⟩
  · obtain ⟨s', q2, eg⟩ := hg (x_fs σ1 3) (Or.inr rfl)
    refine ev_findq (w := 3) (by decide) h q1 (hf.2 e) q2 ?_
    rw [eg, e]
    unfold fX6_orNone bX6_orNone_14
    rw [if_neg (by decide), m_find3, pu_call, pu_call]
  · obtain ⟨s', q2, eg⟩ := hg σ1 (Or.inl rfl)
    refine EV.quiet (r := nI k) h (hf.1 k (by omega) e) (σ2 := s') ?_ q1 q2
    rw [eg, e]
    unfold fX6_orNone bX6_orNone_14
    rw [if_pos (show (0 : Int32) ≤ nI k from nI_le (a := 0) (by omega) (by omega)), pu_call]
theorem x_whenLoop {a : AW} {T : Nat → Int32} {v : Int32} {P : Nat → Bool} (hP : ∀ i, i ≤ 200 → (¬ alo a T i 5 < v ↔ P i = true)) : ∀ (d i fuel : Nat) (σ : mt_St), 200 = i + d → d + 1 < fuel → tE (σ 37) (alo a T i) → (∀ k, k < 200 → σ 38 k = upA (yrs k a)) → σ 1 0 = a 0 0 → ∃ f, (∀ k, fk P d i = nI k → k ≤ 200 → bX5_when_38 5000 fuel σ v (nI i) = some (nI k, mt_row σ 37 f)) ∧ (fk P d i = -1 → bX5_when_38 5000 fuel σ v (nI i) = some (-1000001 - nI 3, x_fs (mt_row σ 37 f) 3)) := by
  intro d
  induction d with
  | zero =>
    intro i fuel σ hd hf h hu h0
    obtain ⟨fuel, rfl⟩ : ∃ q, fuel = q + 1 := ⟨fuel - 1, by omega⟩
    obtain ⟨fuel, rfl⟩ : ∃ q, fuel = q + 1 := ⟨fuel - 1, by omega⟩
    have : i = 200 := by omega
    subst this
    refine ⟨σ 37, fun k hk hk2 => ?_, fun hk => ?_⟩
    · unfold fk at hk
      by_cases q : P 200 = true
      · rw [if_pos q] at hk
        unfold bX5_when_38
        rw [if_neg (by decide), h 5 (by decide), if_neg ((hP 200 (by omega)).mpr q), mt_row_same, hk]
      · rw [if_neg q] at hk
        exact absurd (show (-1 : Int32) < 0 by decide) (by rw [hk]; exact nI_pos (by omega))
    · unfold fk at hk
      by_cases q : P 200 = true
      · rw [if_pos q] at hk
        exact absurd hk (by decide)
      · have q2 : alo a T 200 5 < v := Decidable.byContradiction (fun z => q ((hP 200 (by omega)).mp z))
        unfold bX5_when_38
        rw [if_neg (by decide), h 5 (by decide), if_pos q2, if_pos (by decide)]
        unfold bX5_when_86
        show bX5_when_38 5000 (fuel + 1) σ v (nI 200 + 1) = _
        unfold bX5_when_38
        rw [if_pos (by decide), x_find3, pu_call, mt_row_same]
  | succ d ih =>
    intro i fuel σ hd hf h hu h0
    obtain ⟨fuel, rfl⟩ : ∃ q, fuel = q + 1 := ⟨fuel - 1, by omega⟩
    by_cases q : P i = true
    · refine ⟨σ 37, fun k hk hk2 => ?_, fun hk => ?_⟩
      · unfold fk at hk
        rw [if_pos q] at hk
        unfold bX5_when_38
        rw [if_neg (show ¬ (200 : Int32) < nI i from nI_nlt (show i ≤ 200 by omega) (by decide)), h 5 (by decide), if_neg ((hP i (by omega)).mpr q), mt_row_same, hk]
      · unfold fk at hk
        rw [if_pos q] at hk
        exact absurd (show (-1 : Int32) < 0 by decide) (by rw [← hk]; exact nI_pos (by omega))
    · have q2 : alo a T i 5 < v := Decidable.byContradiction (fun z => q ((hP i (by omega)).mp z))
      obtain ⟨f, e1, e2⟩ := ih (i + 1) fuel (mt_row σ 37 (liveT (σ 37) (upA (yrs i a)) (a 0 0))) (by omega) (by omega) (by rw [mt_row_s]; exact tE_live h _ _) (fun k hk => by rw [mt_row_n (by decide)]; exact hu k hk) (by rw [mt_row_n (by decide)]; exact h0)
      rw [pu_row_row] at e1 e2
      have stp : bX5_when_38 5000 (fuel + 1) σ v (nI i) = bX5_when_38 5000 fuel (mt_row σ 37 (liveT (σ 37) (upA (yrs i a)) (a 0 0))) v (nI (i + 1)) := by
        conv => lhs; unfold bX5_when_38
        rw [if_neg (show ¬ (200 : Int32) < nI i from nI_nlt (show i ≤ 200 by omega) (by decide)), h 5 (by decide), if_pos q2, if_neg (show ¬ (200 : Int32) ≤ nI i from nI_ge (b := 200) (by omega) (by decide)), pu_chkP (pu_in (by omega) (by decide)), nI_clamp (by omega), hu i (by omega), h0, x_live, pu_call]
        unfold bX5_when_86
        rw [nI_1]
      refine ⟨f, fun k hk hk2 => ?_, fun hk => ?_⟩
      · unfold fk at hk
        rw [if_neg q] at hk
        rw [stp]; exact e1 k hk hk2
      · unfold fk at hk
        rw [if_neg q] at hk
        rw [stp]; exact e2 hk
theorem e_when {σ : mt_St} {y : Nat} (hy : y ≤ 40000) (h : RR σ y) (u v : Int32) : EV (fun s => fX5_when 5000 s u v) (fun s => fX6_when 5000 s u v) σ y := by
  obtain ⟨⟨a, ha⟩, -⟩ := id h
  obtain ⟨i7, i1⟩ := ha.isT
  have hn8 := ha.1.n8
  cases h1 : okR u (nI (nA a) - 1)
  · refine EV.find (w := 0) (by decide) h ?_ ?_
    · simp only [fX5_when, bX5_when_18, x_isTreaty, i7, h1, x_find0, pu_ask, pu_call, pu_bnd, pu_chk, pu_b0, pu_b1, bN_t, bN_f, bN_c, i10, i00, if_true, if_false]
    · simp only [fX6_when, bX6_when_36, bX6_when_42, m_isTreaty, x_fs_n (show 57 ≠ 55 by decide), i1, h1, m_find0, pu_ask, pu_call, pu_bnd, pu_chk, pu_b0, pu_b1, bN_t, bN_f, bN_c, i10, i00, if_true, if_false]
  cases h2 : okR v 9999
  · refine EV.find (w := 0) (by decide) h ?_ ?_
    · simp only [fX5_when, bX5_when_18, x_isTreaty, x_win, i7, h1, h2, x_find0, pu_ask, pu_call, pu_bnd, pu_chk, pu_b0, pu_b1, bN_t, bN_f, bN_c, i10, i00, if_true, if_false]
    · simp only [fX6_when, bX6_when_36, bX6_when_42, m_isTreaty, m_win, x_fs_n (show 57 ≠ 55 by decide), i1, h1, h2, m_find0, pu_ask, pu_call, pu_bnd, pu_chk, pu_b0, pu_b1, bN_t, bN_f, bN_c, i10, i00, if_true, if_false]
  obtain ⟨t, ht, rfl⟩ := okT ha.1.n8 h1
  have hx := x_fore (m := 200) (by omega) hy ha.1 ha.2.1
  rw [show nI 200 = (200 : Int32) from rfl] at hx
  obtain ⟨f, e1, u1⟩ := hx
  have s1 : SX a (mt_row σ 38 f) 1 := ha.2.1.same hn8 (fun c p q => mt_row_n (by omega))
  obtain ⟨g, e2, t2⟩ := x_try ha.1 s1 ht
  obtain ⟨l, l1, l2⟩ := x_whenLoop (a := a) (T := a (4 + t)) (v := v) (P := fun i => decide (¬ alo a (a (4 + t)) i 5 < v)) (fun i _ => by simp) 200 0 5000 (mt_row (mt_row σ 38 f) 37 g) (by omega) (by omega) (by rw [mt_row_s]; exact t2) (fun k hk => by rw [mt_row_n (by decide), mt_row_s]; exact u1 k hk) (by rw [mt_row_n (by decide), mt_row_n (by decide)]; exact ha.2.1.1.1)
  refine ev_search (P := fun i => decide (¬ alo a (a (4 + t)) i 5 < v)) h (σ1 := mt_row (mt_row (mt_row σ 38 f) 37 g) 37 l) (((quiet.row (by omega)).tr (quiet.row (by omega))).tr (quiet.row (by omega))) ⟨fun k hk e => ?_, fun e => ?_⟩ (fun s hs => ?_)
  · simp only [fX5_when, x_isTreaty, x_win, i7, h1, h2, e1, e2, pu_ask, pu_call, pu_bnd, pu_chk, pu_b0, pu_b1, bN_t, bN_f, bN_c, i10, i00, if_true, if_false]
    exact l1 k e hk
  · simp only [fX5_when, x_isTreaty, x_win, i7, h1, h2, e1, e2, pu_ask, pu_call, pu_bnd, pu_chk, pu_b0, pu_b1, bN_t, bN_f, bN_c, i10, i00, if_true, if_false]
    exact l2 e
  · have s57 : s 57 = σ 57 := by
      rcases hs with rfl | rfl
      · rw [mt_row_n (by decide), mt_row_n (by decide), mt_row_n (by decide)]
      · rw [x_fs_n (by decide), mt_row_n (by decide), mt_row_n (by decide), mt_row_n (by decide)]
    obtain ⟨s', g1, g2⟩ := m_yearsTo (a := a) (j := 22 + 8 * t + 5) (v := v) (σ := s) (P := fun i => decide (¬ alo a (a (4 + t)) i 5 < v)) hy ha.1 (by omega) (by rw [s57]; exact ha.2.2) (fun i r hi hr => by
      have := hr.2.2.2 t (by rw [nA_yrs]; exact ht) 5 (by decide)
      have e : r (22 + 8 * t + 5) = alo a (a (4 + t)) i 5 := by rw [← yrs_alo' ht]; exact this
      rw [e]
      simp only [decide_eq_true_eq, Int32.not_lt])
    refine ⟨s', g2.quiet, ?_⟩
    simp only [fX6_when, bX6_when_42, m_isTreaty, m_win, s57, i1, h1, h2, m_at5, g1, pu_ask, pu_call, pu_bnd, pu_chk, pu_b0, pu_b1, bN_t, bN_f, bN_c, i10, i00, if_true, if_false]
