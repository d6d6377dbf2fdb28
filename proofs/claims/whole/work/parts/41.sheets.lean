theorem RR.sheets {σ σ' : mt_St} {y : Nat} (h : RR σ y) (hs : RS σ') (e : ∀ c, (c < 47 ∨ 54 < c) → c ≠ 64 → c ≠ 65 → c ≠ 66 → c ≠ 67 → σ' c = σ c) : RR σ' y := by
  obtain ⟨⟨a, ha⟩, h2, h3, h4, h5⟩ := id h
  have e' : ∀ c, (c < 47 ∨ 54 < c) ∧ c ≠ 64 ∧ c ≠ 65 ∧ c ≠ 66 ∧ c ≠ 67 → σ' c = σ c := fun c q => e c q.1 q.2.1 q.2.2.1 q.2.2.2.1 q.2.2.2.2
  exact ⟨⟨a, ha.same (fun c p q => e' c (by omega)) (fun k _ => by rw [e' 57 (by omega)])⟩, h2.same (fun c p q => e' c (by omega)) (e' 58 (by omega)) (e' 0 (by omega)) (by rw [e' 56 (by omega)]), h3.same (e' 55 (by omega)) (e' 60 (by omega)), hs, h5.same (by rw [e' 56 (by omega)]) (by rw [e' 44 (by omega)]) (e' 45 (by omega)) (e' 61 (by omega))⟩
theorem x_isSheet (fu : Nat) (v : Int32) : fX5_isSheet fu v = some (bN (okR v 3)) := by
  unfold fX5_isSheet
  rw [x_win, pu_ask, bN_c, pu_chk]
theorem x_beg1Loop {fu c : Nat} : ∀ (d i fuel : Nat) (σ : mt_St), 40 = i + d → d < fuel → ∃ f, bX1_begin_25 fu c fuel σ (nI i) = some ((), mt_row σ (c + 4) f) ∧ ∀ k, k < 40 → f k = if i ≤ k then 0 else σ (c + 4) k := by
  intro d
  induction d with
  | zero =>
    intro i fuel σ hd hf
    obtain ⟨fuel, rfl⟩ : ∃ q, fuel = q + 1 := ⟨fuel - 1, by omega⟩
    have : i = 40 := by omega
    subst this
    unfold bX1_begin_25
    rw [if_pos (by decide)]
    exact ⟨σ (c + 4), by rw [mt_row_same], fun k hk => by rw [if_neg (by omega)]⟩
  | succ d ih =>
    intro i fuel σ hd hf
    obtain ⟨fuel, rfl⟩ : ∃ q, fuel = q + 1 := ⟨fuel - 1, by omega⟩
    unfold bX1_begin_25
    rw [if_neg (show ¬ (40 : Int32) ≤ nI i from nI_ge (b := 40) (by omega) (by decide)), pu_chkP (pu_in (by omega) (by decide)), pu_bnd, nI_clamp (by omega), nI_1]
    obtain ⟨f, e1, e2⟩ := ih (i + 1) fuel (mt_up σ (c + 4) i 0) (by omega) (by omega)
    refine ⟨f, by rw [e1, pu_up, pu_row_row], fun k hk => ?_⟩
    rw [e2 k hk, pu_up, mt_row_s]
    by_cases q : k = i
    · subst q; rw [if_neg (by omega), pu_upd_s, if_pos (by omega)]
    · rw [pu_upd_n q]
      by_cases q2 : i + 1 ≤ k
      · rw [if_pos q2, if_pos (by omega)]
      · rw [if_neg q2, if_neg (by omega)]
theorem m_i40 (s k : Nat) : (40 : Int32) * nI s + nI k = nI (40 * s + k) := by
  rw [show (40 : Int32) = nI 40 from rfl, pk_mul, nI_add]
theorem m_shLoop {s : Nat} (hs : s < 4) : ∀ (d i fuel : Nat) (σ : mt_St), 40 = i + d → d < fuel → ∃ r, bX6_sheet_86 5000 fuel σ (nI s) (nI i) = some (σ 65 s, mt_row σ 66 r) ∧ ∀ k, r k = if 40 * s + i ≤ k ∧ k < 40 * s + 40 then 0 else σ 66 k := by
  intro d
  induction d with
  | zero =>
    intro i fuel σ hd hf
    obtain ⟨fuel, rfl⟩ : ∃ q, fuel = q + 1 := ⟨fuel - 1, by omega⟩
    have : i = 40 := by omega
    subst this
    unfold bX6_sheet_86
    rw [if_pos (by decide), pu_chkP (pu_in hs (by decide)), nI_clamp (by omega)]
    exact ⟨σ 66, by rw [mt_row_same], fun k => by rw [if_neg (by omega)]⟩
  | succ d ih =>
    intro i fuel σ hd hf
    obtain ⟨fuel, rfl⟩ : ∃ q, fuel = q + 1 := ⟨fuel - 1, by omega⟩
    unfold bX6_sheet_86
    rw [if_neg (show ¬ (40 : Int32) ≤ nI i from nI_ge (b := 40) (by omega) (by decide)), m_i40, pu_chkP (pu_in (by omega) (by decide)), pu_bnd, nI_clamp (by omega), nI_1]
    obtain ⟨f, e1, e2⟩ := ih (i + 1) fuel (mt_up σ 66 (40 * s + i) 0) (by omega) (by omega)
    refine ⟨f, by rw [e1, pu_up, pu_row_row, mt_row_n (by decide)], fun k => ?_⟩
    rw [e2 k, pu_up, mt_row_s]
    by_cases q : k = 40 * s + i
    · subst q; rw [if_neg (by omega), pu_upd_s, if_pos (by omega)]
    · rw [pu_upd_n q]
      by_cases q2 : 40 * s + (i + 1) ≤ k ∧ k < 40 * s + 40
      · rw [if_pos q2, if_pos (by omega)]
      · rw [if_neg q2, if_neg (by omega)]
/-- sheet s of width w and length n, all 0 -/
theorem e_sheetGo {σ : mt_St} {y s n : Nat} {w : Int32} (h : RR σ y) (hs : s < 4) (hn : n ≤ 40) (hw : w = 0 ∨ w = 8 ∨ w = 16 ∨ w = 32) : EV (fun t => bX5_sheet_36 5000 t (nI s) w (nI n)) (fun t => bX6_sheet_36 5000 t (nI s) w (nI n)) σ y := by
  obtain ⟨m, hm, em, ex⟩ : ∃ m, m ≤ 40 ∧ (if w = 0 then (0 : Int32) else nI n) = nI m ∧ (if w = 0 then bX1_begin_20 5000 (46 + 1 + s) (mt_up σ (46 + 1 + s) 0 w) 0 else bX1_begin_20 5000 (46 + 1 + s) (mt_up σ (46 + 1 + s) 0 w) (mt_min (nI n) 40)) = bX1_begin_20 5000 (46 + 1 + s) (mt_up σ (46 + 1 + s) 0 w) (nI m) := by
    by_cases q : w = 0
    · refine ⟨0, by omega, ?_, ?_⟩
      · rw [if_pos q]; rfl
      · rw [if_pos q]; rfl
    · refine ⟨n, hn, ?_, ?_⟩
      · rw [if_neg q]
      · rw [if_neg q, show mt_min (nI n) 40 = nI n from pu_min_lt (m := 40) hn (by decide)]
  obtain ⟨f, f1, f2⟩ := x_beg1Loop (fu := 5000) (c := 47 + s) 40 0 5000 (mt_row σ (47 + s) (upd (upd (σ (47 + s)) 0 w) 1 (nI m))) (by omega) (by omega)
  have c64 : ∀ c, 54 < c → mt_row (mt_row σ (47 + s) (upd (upd (σ (47 + s)) 0 w) 1 (nI m))) (47 + s + 4) f c = σ c := fun c q => by rw [mt_row_n (by omega), mt_row_n (by omega)]
  obtain ⟨r, r1, r2⟩ := m_shLoop hs 40 0 5000 (mt_row (mt_row (mt_row (mt_row σ (47 + s) (upd (upd (σ (47 + s)) 0 w) 1 (nI m))) (47 + s + 4) f) 64 (upd (σ 64) s w)) 65 (upd (σ 65) s (nI m))) (by omega) (by omega)
  refine ⟨nI m, mt_row (mt_row σ (47 + s) (upd (upd (σ (47 + s)) 0 w) 1 (nI m))) (47 + s + 4) f, mt_row (mt_row (mt_row (mt_row (mt_row σ (47 + s) (upd (upd (σ (47 + s)) 0 w) 1 (nI m))) (47 + s + 4) f) 64 (upd (σ 64) s w)) 65 (upd (σ 65) s (nI m))) 66 r, ?_, ?_, h.sheets ?_ ?_⟩
  · show bX5_sheet_36 5000 σ (nI s) w (nI n) = _
    unfold bX5_sheet_36 fX1_begin
    rw [if_pos (show (0 : Int32) ≤ nI n from nI_le (a := 0) (by omega) (by omega)), if_pos (show nI n ≤ (40 : Int32) from nI_le (b := 40) hn (by decide)), pu_chkP (pu_in hs (by decide)), nI_clamp (by omega), pu_bnd, ex]
    unfold bX1_begin_20
    rw [show 46 + 1 + s = 47 + s by omega, pu_bnd, pu_up, pu_up, mt_row_s, pu_row_row, show (0 : Int32) = nI 0 from rfl, f1, pu_call, pu_chkP (pu_in hs (by decide)), mt_row_n (by omega), mt_row_s, pu_upd_s]
  · show bX6_sheet_36 5000 _ (nI s) w (nI n) = _
    unfold bX6_sheet_36 bX6_sheet_82
    rw [if_pos (show (0 : Int32) ≤ nI n from nI_le (a := 0) (by omega) (by omega)), if_pos (show nI n ≤ (40 : Int32) from nI_le (b := 40) hn (by decide)), pu_chkP (pu_in hs (by decide)), nI_clamp (by omega), pu_bnd, pu_chkP (pu_in hs (by decide)), pu_chkP (pu_in hs (by decide))]
    have : ∀ v : Int32, (mt_bnd (mt_up (mt_up (mt_row (mt_row σ (47 + s) (upd (upd (σ (47 + s)) 0 w) 1 (nI m))) (47 + s + 4) f) 64 s w) 65 s v) fun s1 => bX6_sheet_86 5000 5000 s1 (nI s) 0) = bX6_sheet_86 5000 5000 (mt_row (mt_row (mt_row (mt_row σ (47 + s) (upd (upd (σ (47 + s)) 0 w) 1 (nI m))) (47 + s + 4) f) 64 (upd (σ 64) s w)) 65 (upd (σ 65) s v)) (nI s) 0 := fun v => by
      rw [pu_bnd, pu_up, pu_up, mt_row_n (show 65 ≠ 64 by decide), c64 64 (by decide), c64 65 (by decide)]
    rw [this, this]
    rw [mt_row_s, pu_upd_s] at r1
    rw [← r1]
    by_cases q : w = 0
    · rw [if_pos q, show (0 : Int32) = nI m by rw [← em, if_pos q]]
      rw [show nI m = nI 0 by rw [← em, if_pos q]; rfl]
    · rw [if_neg q, show nI n = nI m by rw [← em, if_neg q]]
      rfl
  · intro t ht
    by_cases q : t = s
    · subst q
      have x47 : (mt_row (mt_row (mt_row (mt_row (mt_row σ (47 + t) (upd (upd (σ (47 + t)) 0 w) 1 (nI m))) (47 + t + 4) f) 64 (upd (σ 64) t w)) 65 (upd (σ 65) t (nI m))) 66 r) (47 + t) = upd (upd (σ (47 + t)) 0 w) 1 (nI m) := by rw [mt_row_n (by omega), mt_row_n (by omega), mt_row_n (by omega), mt_row_n (by omega), mt_row_s]
      have x51 : (mt_row (mt_row (mt_row (mt_row (mt_row σ (47 + t) (upd (upd (σ (47 + t)) 0 w) 1 (nI m))) (47 + t + 4) f) 64 (upd (σ 64) t w)) 65 (upd (σ 65) t (nI m))) 66 r) (51 + t) = f := by rw [mt_row_n (by omega), mt_row_n (by omega), mt_row_n (by omega), show 51 + t = 47 + t + 4 by omega, mt_row_s]
      rw [x47, x51]
      refine ⟨?_, ?_, fun k hk => ?_, hw, m, hm, rfl⟩
      · rw [mt_row_n (by decide), mt_row_n (by decide), mt_row_s, pu_upd_s]; rfl
      · rw [mt_row_n (by decide), mt_row_s, pu_upd_s]; rfl
      · rw [mt_row_s, r2, if_pos (by omega), f2 k hk, if_pos (by omega)]
    · have x47 : (mt_row (mt_row (mt_row (mt_row (mt_row σ (47 + s) (upd (upd (σ (47 + s)) 0 w) 1 (nI m))) (47 + s + 4) f) 64 (upd (σ 64) s w)) 65 (upd (σ 65) s (nI m))) 66 r) (47 + t) = σ (47 + t) := by rw [mt_row_n (by omega), mt_row_n (by omega), mt_row_n (by omega), mt_row_n (by omega), mt_row_n (by omega)]
      have x51 : (mt_row (mt_row (mt_row (mt_row (mt_row σ (47 + s) (upd (upd (σ (47 + s)) 0 w) 1 (nI m))) (47 + s + 4) f) 64 (upd (σ 64) s w)) 65 (upd (σ 65) s (nI m))) 66 r) (51 + t) = σ (51 + t) := by rw [mt_row_n (by omega), mt_row_n (by omega), mt_row_n (by omega), mt_row_n (by omega), mt_row_n (by omega)]
      obtain ⟨g1, g2, g3, g4, g5⟩ := h.2.2.2.1 t ht
      rw [x47, x51]
      refine ⟨?_, ?_, fun k hk => ?_, g4, g5⟩
      · rw [mt_row_n (by decide), mt_row_n (by decide), mt_row_s, pu_upd_n q]; exact g1
      · rw [mt_row_n (by decide), mt_row_s, pu_upd_n q]; exact g2
      · rw [mt_row_s, r2, if_neg (by omega), mt_row_n (by decide), mt_row_n (by decide), c64 66 (by decide)]; exact g3 k hk
  · intro c p q1 q2 q3 q4
    rw [mt_row_n q3, mt_row_n q2, mt_row_n q1, mt_row_n (by omega), mt_row_n (by omega)]
