/-! looks ahead -/
def mq (σ σ' : mt_St) : Prop := (∀ c, c ≠ 56 → c ≠ 57 → c ≠ 59 → σ' c = σ c) ∧ (∀ k, k ≠ 5 → σ' 56 k = σ 56 k) ∧ ∀ k, k < 86 → σ' 57 k = σ 57 k
theorem mq.rf {σ : mt_St} : mq σ σ := ⟨fun _ _ _ _ => rfl, fun _ _ => rfl, fun _ _ => rfl⟩
theorem mq.tr {σ σ' σ'' : mt_St} (h : mq σ σ') (h2 : mq σ' σ'') : mq σ σ'' := ⟨fun c a b d => (h2.1 c a b d).trans (h.1 c a b d), fun k a => (h2.2.1 k a).trans (h.2.1 k a), fun k a => (h2.2.2 k a).trans (h.2.2 k a)⟩
theorem mq.quiet {σ σ' : mt_St} (h : mq σ σ') : quiet σ σ' := ⟨fun c _ b d e _ _ => h.1 c b d e, by rw [h.1 44 (by decide) (by decide) (by decide)], h.2.1 3 (by decide), h.2.1 7 (by decide), h.2.2⟩
theorem frW.quiet {σ σ' : mt_St} (h : frW 25 σ σ') : quiet σ σ' := ⟨fun c a _ _ _ _ _ => h c (by omega), by rw [h 44 (by omega)], by rw [h 56 (by omega)], by rw [h 56 (by omega)], fun k _ => by rw [h 57 (by omega)]⟩
theorem quiet.row {σ : mt_St} {c : Nat} {f : Nat → Int32} (hc : (25 ≤ c ∧ c ≤ 43) ∨ c = 59 ∨ c = 63 ∨ c = 67) : quiet σ (mt_row σ c f) := ⟨fun c' a b d e f g => mt_row_n (by omega), by rw [mt_row_n (by omega)], by rw [mt_row_n (by omega)], by rw [mt_row_n (by omega)], fun k _ => by rw [mt_row_n (by omega)]⟩
/-- the world is laid aside, changed, and put back -/
theorem m_back {σ σ' : mt_St} {r : Nat → Int32} {v : Int32} (hr : ∀ k, k < 86 → r k = σ 57 k) (h : frM (mt_row σ 59 r) σ') : ∃ σ'', fX6_putBack 5000 σ' v = some (v, σ'') ∧ mq σ σ'' := by
  obtain ⟨q, e1, e2⟩ := m_copy (a1 := 59) (a2 := 57) (by decide) σ'
  refine ⟨mt_row σ' 57 q, ?_, fun c a b d => ?_, fun k hk => ?_, fun k hk => ?_⟩
  · unfold fX6_putBack
    rw [e1, pu_call]
  · rw [mt_row_n b, h.1 c b a, mt_row_n d]
  · rw [mt_row_n (by decide), h.2 k hk, mt_row_n (by decide)]
  · rw [mt_row_s, e2 k hk, h.1 59 (by decide) (by decide), mt_row_s, hr k hk]
theorem m_behind {σ : mt_St} {a : AW} {y m i : Nat} (hw : wfA a y) (hy : y < 2 ^ 29) (hm : m < 5000) (hi : i < 86) (h : SM a (σ 57)) : ∃ r' σ', fX6_behind 5000 σ (nI i) (nI m) = some (r' i, σ') ∧ SM (yrs m a) r' ∧ mq σ σ' := by
  obtain ⟨r, e1, e2⟩ := m_copy (a1 := 57) (a2 := 59) (by decide) σ
  obtain ⟨σ1, g1, g2, g3⟩ := m_years (σ := mt_row σ 59 r) (m := m) hm hy hw (by rw [mt_row_n (by decide)]; exact h)
  obtain ⟨σ2, b1, b2⟩ := m_back (v := σ1 57 i) e2 g3
  refine ⟨σ1 57, σ2, ?_, g2, b2⟩
  unfold fX6_behind
  rw [e1, pu_call, g1, pu_call, pu_chkP (pu_in hi (by decide)), nI_clamp (by omega), b1, pu_call]
theorem e_go {σ : mt_St} {y : Nat} (hy : y ≤ 40000) (h : RR σ y) (v : Int32) : EV (fun s => fX5_go 5000 s v) (fun s => fX6_go 5000 s v) σ (y + 60) := by
  obtain ⟨⟨a, ha⟩, -⟩ := id h
  obtain ⟨z, hz, ez⟩ := ha.1.2.2.2.2.1
  have h60 := h.mono (show y ≤ y + 60 by omega)
  by_cases h1 : v < 1
  · refine EV.find (w := 0) (by decide) h60 ?_ ?_
    · simp only [fX5_go, bX5_go_11, h1, x_find0, pu_ask, pu_call, pu_bnd, pu_chk, pu_b0, pu_b1, bN_t, bN_f, bN_c, i10, i00, if_true, if_false]
    · simp only [fX6_go, m_winL, h1, m_find0, pu_ask, pu_call, pu_bnd, pu_chk, pu_b0, pu_b1, bN_t, bN_f, bN_c, i10, i00, if_true, if_false]
  by_cases h2 : v ≤ 60
  rotate_left
  · have h2' : (60 : Int32) < v := Int32.not_le.mp h2
    refine EV.find (w := 0) (by decide) h60 ?_ ?_
    · simp only [fX5_go, bX5_go_11, h1, h2, x_find0, pu_ask, pu_call, pu_bnd, pu_chk, pu_b0, pu_b1, bN_t, bN_f, bN_c, i10, i00, if_true, if_false]
    · simp only [fX6_go, m_winL, h1, h2', m_find0, pu_ask, pu_call, pu_bnd, pu_chk, pu_b0, pu_b1, bN_t, bN_f, bN_c, i10, i00, if_true, if_false]
  have h2' : ¬ (60 : Int32) < v := Int32.not_lt.mpr h2
  obtain ⟨m, hm, rfl⟩ := nI_of2 (x := v) (n := 60) (M := 60) rfl (fun q => h1 (by
    rw [Int32.lt_iff_toInt_lt] at q ⊢
    have e1 : (0 : Int32).toInt = 0 := rfl
    have e2 : (1 : Int32).toInt = 1 := rfl
    omega)) h2
  have hle : nI (z + m) ≤ 99999 := nI_le (b := 99999) (by omega) (by decide)
  obtain ⟨σ1, e1, e2, e3⟩ := x_years (fu := 5000) (w := 1) (m := m) (by omega) (by omega) (by omega) (show y + m ≤ 99999 by omega) ha.1 ha.2.1
  have w' := wf_yrs m (show y + m < 2 ^ 30 by omega) ha.1
  have hm57 : SM a (σ1 57) := by rw [e3 57 (by omega)]; exact ha.2.2
  obtain ⟨σ2, f1, f2, f3⟩ := m_years (σ := σ1) (m := m) (by omega) (by omega) ha.1 hm57
  refine ⟨forceA (yrs m a), σ1, σ2, ?_, ?_, h.act (a := yrs m a) (by omega) ⟨w'.mono (by omega), e2.same w'.n8 (fun c p q => f3.1 c (by omega) (by omega)), f2⟩ ((frW.loud (Or.inl rfl) e3).tr f3.loud)⟩
  · simp only [fX5_go, h1, h2, ha.2.1.1.2.2.2.1, ez, nI_add, hle, e1, x_inForce w' e2, pu_ask, pu_call, pu_bnd, pu_chk, pu_b0, pu_b1, bN_t, bN_f, bN_c, i10, i00, if_true, if_false]
    rfl
  · simp only [fX6_go, m_winL, h1, h2', hm57.1.2.2.2.1, ez, nI_add, hle, f1, m_inForce w' f2, pu_ask, pu_call, pu_bnd, pu_chk, pu_b0, pu_b1, bN_t, bN_f, bN_c, i10, i00, if_true, if_false]
    rfl
theorem e_gold {σ : mt_St} {y : Nat} (hy : y ≤ 40000) (h : RR σ y) (v : Int32) : EV (fun s => fX5_gold 5000 s v) (fun s => fX6_gold 5000 s v) σ y := by
  obtain ⟨⟨a, ha⟩, -⟩ := id h
  cases h1 : okR v 100
  · refine EV.find (w := 0) (by decide) h ?_ ?_
    · simp only [fX5_gold, x_win, h1, x_find0, pu_ask, pu_call, pu_bnd, pu_chk, pu_b0, pu_b1, bN_t, bN_f, bN_c, i10, i00, if_true, if_false]
    · simp only [fX6_gold, bX6_gold_25, m_win, h1, m_find0, pu_ask, pu_call, pu_bnd, pu_chk, pu_b0, pu_b1, bN_t, bN_f, bN_c, i10, i00, if_true, if_false]
  obtain ⟨m, hm, rfl⟩ := okR_nI (m := 100) (by decide) h1
  obtain ⟨σ1, e1, s1, f1⟩ := x_become (fu := 5000) (w := 25) (s := 1) (by omega) (by omega) ha.1 ha.2.1
  obtain ⟨σ2, e2, s2, f2⟩ := x_years (fu := 5000) (w := 25) (m := m) (by omega) (by omega) (by omega) (show y + m ≤ 99999 by omega) ha.1 s1
  have q12 := (f1.tr f2)
  obtain ⟨r, σ3, e3, s3, f3⟩ := m_behind (σ := σ2) (i := 3) (m := m) ha.1 (by omega) (by omega) (by omega) (by rw [q12 57 (by omega)]; exact ha.2.2)
  refine EV.quiet (r := yrs m a 0 3) h (σ1 := σ2) (σ2 := σ3) ?_ ?_ q12.quiet f3.quiet
  · simp only [fX5_gold, x_win, h1, e1, e2, s2.1.2.2.1, pu_ask, pu_call, pu_bnd, pu_chk, pu_b0, pu_b1, bN_t, bN_f, bN_c, i10, i00, if_true, if_false]
  · simp only [fX6_gold, bX6_gold_25, m_win, h1, pu_ask, pu_call, pu_bnd, pu_chk, pu_b0, pu_b1, bN_t, bN_f, bN_c, i10, i00, if_true, if_false]
    rw [show (3 : Int32) = nI 3 from rfl, e3, pu_call, s3.1.2.2.1]
/-! wakings -/
def lcg (s : Int32) : Int32 := s * (1103515245 : Int32) + (12345 : Int32)
def drw (s : Int32) : Int32 := (Int32.toUInt32 s >>> (Int32.toUInt32 (8 : Int32) &&& Int32.toUInt32 31)).toInt32
theorem drw_n (s : Int32) : ∃ k, k < 2 ^ 24 ∧ drw s = nI k := by
  refine ⟨(drw s).toBitVec.toNat, ?_, ?_⟩
  · show (s.toBitVec >>> 8).toNat < 2 ^ 24
    rw [BitVec.toNat_ushiftRight, Nat.shiftRight_eq_div_pow]
    have := s.toBitVec.isLt
    omega
  · apply Int32.toBitVec_inj.mp
    apply BitVec.eq_of_toNat_eq
    rw [pk_tn (drw s).toBitVec.isLt]
def wkE (a : AW) : Int32 := drw (lcg (a 0 5)) - drw (lcg (a 0 5)) / 13 * 13
def wkF (a : AW) : Int32 := drw (lcg (lcg (a 0 5))) - drw (lcg (lcg (a 0 5))) / 12 * 12
def wkY (a : AW) : Int32 := a 0 0 ^^^ ((1 : Int32) <<< (wkF a &&& 31))
def wkI (a : AW) : Nat := Int32.toNatClampNeg (a 0 4 - a 0 4 / 6 * 6)
def wk0 (a : AW) : AW := fun c => if c = 0 then upd (upd (a 0) 5 (lcg (lcg (a 0 5)))) 0 (wkY a) else if c = 1 then upd (a 1) (wkI a) (wkE a) else a c
theorem wk0_0 (a : AW) : wk0 a 0 = upd (upd (a 0) 5 (lcg (lcg (a 0 5)))) 0 (wkY a) := rfl
theorem wk0_1 (a : AW) : wk0 a 1 = upd (a 1) (wkI a) (wkE a) := rfl
theorem wk0_3 (a : AW) : wk0 a 3 = a 3 := rfl
theorem wk0_t (a : AW) (t : Nat) : wk0 a (4 + t) = a (4 + t) := by unfold wk0; rw [if_neg (by omega), if_neg (by omega)]
theorem nA_wk0 (a : AW) : nA (wk0 a) = nA a := rfl
theorem wkI_n {a : AW} {y : Nat} (hy : y < 2 ^ 30) (hw : wfA a y) : ∃ z, z < 2 ^ 30 ∧ a 0 4 = nI z ∧ a 0 4 - a 0 4 / 6 * 6 = nI (z % 6) ∧ wkI a = z % 6 := by
  obtain ⟨z, hz, ez⟩ := hw.2.2.2.2.1
  have e : a 0 4 - a 0 4 / 6 * 6 = nI (z % 6) := by rw [ez]; exact pu_y6 (by omega)
  refine ⟨z, by omega, ez, e, ?_⟩
  unfold wkI
  rw [e, nI_clamp (by omega)]
theorem wkE_n (a : AW) : ∃ e, e ≤ 12 ∧ wkE a = nI e := by
  obtain ⟨k, hk, e⟩ := drw_n (lcg (a 0 5))
  refine ⟨k % 13, by omega, ?_⟩
  unfold wkE
  rw [e]
  exact pk_rem (a := k) (d := 13) (by omega) (by decide) (by decide)
theorem wkF_n (a : AW) : ∃ e, e < 12 ∧ wkF a = nI e := by
  obtain ⟨k, hk, e⟩ := drw_n (lcg (lcg (a 0 5)))
  refine ⟨k % 12, by omega, ?_⟩
  unfold wkF
  rw [e]
  exact pk_rem (a := k) (d := 12) (by omega) (by decide) (by decide)
theorem wf_wk0 {a : AW} {y : Nat} (hw : wfA a y) : wfA (wk0 a) y := by
  obtain ⟨w1, w2, w3, w4, w5, w6, w7, w8⟩ := hw
  refine ⟨w1, ?_, w3, w4, w5, fun i hi => ?_, w7, fun t ht => by rw [wk0_t]; exact w8 t ht⟩
  · rw [wk0_0, pu_upd_s]
    unfold wkY
    obtain ⟨f, hf, e⟩ := wkF_n a
    rw [e, ps_bit f hf]
    exact ps_xor w2 ⟨2 ^ f, Nat.lt_of_lt_of_le (Nat.pow_lt_pow_right (by decide) hf) (by decide), rfl⟩
  · rw [wk0_1]
    by_cases q : i = wkI a
    · rw [q, pu_upd_s]; exact wkE_n a
    · rw [pu_upd_n q]; exact w6 i hi
def wks : Nat → AW → AW
  | 0, a => a
  | n + 1, a => passA (wk0 (wks n a))
theorem nA_wks (n : Nat) (a : AW) : nA (wks n a) = nA a := by
  induction n with
  | zero => rfl
  | succ n ih => show nA (passA (wk0 (wks n a))) = _; rw [nA_passA, nA_wk0, ih]
theorem wf_wks {a : AW} {y : Nat} (n : Nat) (hy : y + n < 2 ^ 30) (h : wfA a y) : wfA (wks n a) (y + n) := by
  induction n with
  | zero => exact h
  | succ n ih => exact wf_pass (y := y + n) (by omega) (wf_wk0 (ih (by omega)))
theorem x_wk {a : AW} {σ : mt_St} {i : Nat} (hn8 : nA a ≤ 8) (hi : wkI a = i) (h : SX a σ 1) : SX (wk0 a) (mt_up (mt_up (mt_up (mt_up σ 1 5 (lcg (σ 1 5))) 2 i (wkE a)) 1 5 (lcg (lcg (σ 1 5)))) 1 0 (wkY a)) 1 := by
  obtain ⟨⟨e0, e1, e3, e4, e5, e7⟩, hl, hs, ht⟩ := h
  have r1 : (mt_up (mt_up (mt_up (mt_up σ 1 5 (lcg (σ 1 5))) 2 i (wkE a)) 1 5 (lcg (lcg (σ 1 5)))) 1 0 (wkY a)) 1 = upd (upd (upd (σ 1) 5 (lcg (σ 1 5))) 5 (lcg (lcg (σ 1 5)))) 0 (wkY a) := by
    simp only [pu_up, mt_row_s, mt_row_n (show 1 ≠ 2 by decide)]
  have r2 : (mt_up (mt_up (mt_up (mt_up σ 1 5 (lcg (σ 1 5))) 2 i (wkE a)) 1 5 (lcg (lcg (σ 1 5)))) 1 0 (wkY a)) 2 = upd (σ 2) i (wkE a) := by
    simp only [pu_up, mt_row_s, mt_row_n (show 2 ≠ 1 by decide)]
  have rc : ∀ c, c ≠ 1 → c ≠ 2 → (mt_up (mt_up (mt_up (mt_up σ 1 5 (lcg (σ 1 5))) 2 i (wkE a)) 1 5 (lcg (lcg (σ 1 5)))) 1 0 (wkY a)) c = σ c := fun c p q => by
    simp only [pu_up, mt_row_n p, mt_row_n q]
  unfold SX
  rw [r1, show 1 + 1 = 2 from rfl, r2, rc (1 + 3) (by omega) (by omega), nA_wk0, wk0_0, wk0_1, wk0_3, hi, ← e5]
  refine ⟨⟨rfl, e1, e3, e4, ?_, e7⟩, fun k hk => ?_, hs, fun t htn => ?_⟩
  · rw [pu_upd_n (by decide), pu_upd_s, pu_upd_n (by decide), pu_upd_s]
  · by_cases q : k = i
    · rw [q, pu_upd_s, pu_upd_s]
    · rw [pu_upd_n q, pu_upd_n q]; exact hl k hk
  · rw [wk0_t, rc _ (by omega) (by omega)]; exact ht t htn
theorem m_wk {a : AW} {r : Nat → Int32} {i : Nat} (hn8 : nA a ≤ 8) (hi : wkI a = i) (hi6 : i < 6) (h : SM a r) : SM (wk0 a) (upd (upd (upd (upd r 2 (lcg (r 2))) (6 + i) (wkE a)) 2 (lcg (lcg (r 2)))) 4 (wkY a)) := by
  obtain ⟨⟨e0, e1, e3, e4, e5, e7⟩, hl, hs, ht⟩ := h
  unfold SM
  rw [nA_wk0, wk0_0, wk0_1, wk0_3, hi, ← e5]
  refine ⟨⟨rfl, ?_, ?_, ?_, ?_, ?_⟩, fun k hk => ?_, fun k hk => ?_, fun t htn k hk => ?_⟩
  · rw [pu_upd_n (by omega), pu_upd_n (by omega), pu_upd_n (by omega), pu_upd_n (by omega)]; exact e1
  · rw [pu_upd_n (by omega), pu_upd_n (by omega), pu_upd_n (by omega), pu_upd_n (by omega)]; exact e3
  · rw [pu_upd_n (by omega), pu_upd_n (by omega), pu_upd_n (by omega), pu_upd_n (by omega)]; exact e4
  · rw [pu_upd_n (by omega), pu_upd_s, pu_upd_n (by omega), pu_upd_s]
  · rw [pu_upd_n (by omega), pu_upd_n (by omega), pu_upd_n (by omega), pu_upd_n (by omega)]; exact e7
  · by_cases q : k = i
    · rw [q, pu_upd_n (by omega), pu_upd_n (by omega), pu_upd_s, pu_upd_s]
    · rw [pu_upd_n (by omega), pu_upd_n (by omega), pu_upd_n (by omega), pu_upd_n (by omega), pu_upd_n q]; exact hl k hk
  · rw [pu_upd_n (by omega), pu_upd_n (by omega), pu_upd_n (by omega), pu_upd_n (by omega)]; exact hs k hk
  · show upd (upd (upd (upd r 2 (lcg (r 2))) (6 + i) (wkE a)) 2 (lcg (lcg (r 2)))) 4 (wkY a) (22 + 8 * t + k) = _
    rw [pu_upd_n (by omega), pu_upd_n (by omega), pu_upd_n (by omega), pu_upd_n (by omega), wk0_t]; exact ht t htn k hk
theorem x_draw {fu c : Nat} {σ : mt_St} : fX4_draw fu σ c = some (drw (lcg (σ c 5)), mt_up σ c 5 (lcg (σ c 5))) := by
  unfold fX4_draw
  rw [pu_bnd, pu_up, mt_row_s]
  rfl
theorem m_draw {fu : Nat} {σ : mt_St} : fX6_drawn fu σ = some (drw (lcg (σ 57 2)), mt_up σ 57 2 (lcg (σ 57 2))) := by
  unfold fX6_drawn
  rw [pu_bnd, pu_up, mt_row_s]
  rfl
