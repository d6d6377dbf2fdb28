theorem pu_m1 (x : Int32) : x + -1 = x - 1 := by rw [Int32.sub_eq_add_neg]
def bySh (x : Int32) (j : Nat) : Int32 := (Int32.toUInt32 x >>> (Int32.toUInt32 ((8 : Int32) * nI j) &&& Int32.toUInt32 31)).toInt32
def byM (x : Int32) (j : Nat) : Int32 := (x >>> (((8 : Int32) * nI j) &&& 31)) &&& (255 : Int32)
theorem by_b (x : Int32) (j : Nat) (hj : j < 4) : (bySh x j).toBitVec = x.toBitVec >>> (8 * j) := by
  rcases (show j = 0 ∨ j = 1 ∨ j = 2 ∨ j = 3 by omega) with rfl | rfl | rfl | rfl <;> rfl
theorem by_m (x : Int32) (j : Nat) (hj : j < 4) : (byM x j).toBitVec = x.toBitVec.sshiftRight (8 * j) &&& 255#32 := by
  rcases (show j = 0 ∨ j = 1 ∨ j = 2 ∨ j = 3 by omega) with rfl | rfl | rfl | rfl <;> rfl
theorem by_eq (x : Int32) (j : Nat) (hj : j < 4) : (bySh x j).toInt8 = (byM x j).toInt8 := by
  apply Int8.toBitVec_inj.mp
  rw [Int32.toBitVec_toInt8, Int32.toBitVec_toInt8, by_b x j hj, by_m x j hj]
  apply BitVec.eq_of_getLsbD_eq
  intro i hi
  have h255 : (255#32).getLsbD i = true := by
    rcases (show i = 0 ∨ i = 1 ∨ i = 2 ∨ i = 3 ∨ i = 4 ∨ i = 5 ∨ i = 6 ∨ i = 7 by omega) with rfl | rfl | rfl | rfl | rfl | rfl | rfl | rfl <;> decide
  rw [BitVec.getLsbD_signExtend, BitVec.getLsbD_signExtend, BitVec.getLsbD_and, h255, BitVec.getLsbD_ushiftRight, BitVec.getLsbD_sshiftRight]
  simp only [show i < 32 by omega, show ¬ 32 ≤ i by omega, show 8 * j + i < 32 by omega, if_true, decide_true, decide_false, Bool.and_true, Bool.true_and, Bool.not_false]
theorem by_n (x : Int32) (j : Nat) (hj : j < 4) : ∃ n, n < 256 ∧ byM x j = nI n := by
  refine ⟨(byM x j).toBitVec.toNat, ?_, ?_⟩
  · rw [by_m x j hj, BitVec.toNat_and]
    exact Nat.lt_of_le_of_lt Nat.and_le_right (by decide)
  · apply Int32.toBitVec_inj.mp
    apply BitVec.eq_of_toNat_eq
    rw [pk_tn (byM x j).toBitVec.isLt]
theorem by_nar (x : Int32) (j : Nat) (hj : j < 4) : vp_nar .byte ((bySh x j).toInt8.toInt32) = (byM x j).toInt8.toInt32 := by
  show ((bySh x j).toInt8.toInt32).toInt8.toInt32 = _
  rw [Int8.toInt8_toInt32, by_eq x j hj]
def fedX (x : Int32) (f : Nat → Int32) (n : Nat) : Nat → Nat → Int32
  | 0 => f
  | j + 1 => fedX x (upd f n ((byM x j).toInt8.toInt32)) (n + 1) j
def fedM (x : Int32) (f : Nat → Int32) (n : Nat) : Nat → Nat → Int32
  | 0 => f
  | j + 1 => fedM x (upd f n (byM x j)) (n + 1) j
theorem x_take {n : Nat} {σ : mt_St} {v : Int32} (hn : n < 120) (h : σ 44 1 = nI n) : fX0_take 5000 σ v = some ((), mt_row (mt_row σ 45 (upd (σ 45) n (vp_nar .byte v))) 44 (upd (σ 44) 1 (nI (n + 1)))) := by
  unfold fX0_take bX0_take_29
  rw [h, if_neg (show ¬ (120 : Int32) ≤ nI n from nI_ge (b := 120) hn (by decide)), pu_chkP (pu_in hn (by decide)), pu_bnd, pu_bnd, nI_clamp (by omega), pu_up, pu_up, mt_row_n (show 44 ≠ 45 by decide), h, nI_1]
theorem x_fedLoop {x : Int32} : ∀ (j n fuel : Nat) (σ : mt_St), j ≤ 4 → n + j ≤ 120 → j < fuel → σ 44 1 = nI n → ∃ f, bX5_feed_40 5000 fuel σ x (nI j - 1) = some (nI (n + j), mt_row (mt_row σ 45 (fedX x (σ 45) n j)) 44 f) ∧ f 1 = nI (n + j) := by
  intro j
  induction j with
  | zero =>
    intro n fuel σ hj hn hf h
    obtain ⟨fuel, rfl⟩ : ∃ q, fuel = q + 1 := ⟨fuel - 1, by omega⟩
    unfold bX5_feed_40
    rw [if_pos (by decide), h]
    refine ⟨σ 44, ?_, h⟩
    show some (nI n, σ) = some (nI n, mt_row (mt_row σ 45 (σ 45)) 44 (σ 44))
    rw [mt_row_same, mt_row_same]
  | succ j ih =>
    intro n fuel σ hj hn hf h
    obtain ⟨fuel, rfl⟩ : ∃ q, fuel = q + 1 := ⟨fuel - 1, by omega⟩
    unfold bX5_feed_40
    rw [nI_pred, if_neg (nI_pos (by omega))]
    have := by_nar x j (by omega)
    unfold bySh at this
    rw [x_take (by omega) h, pu_call, this]
    obtain ⟨f, e1, e2⟩ := ih (n + 1) fuel (mt_row (mt_row σ 45 (upd (σ 45) n ((byM x j).toInt8.toInt32))) 44 (upd (σ 44) 1 (nI (n + 1)))) (by omega) (by omega) (by omega) (by rw [mt_row_s, pu_upd_s])
    refine ⟨f, ?_, by rw [e2]; congr 1; omega⟩
    rw [pu_m1, e1, mt_row_n (show 45 ≠ 44 by decide), mt_row_s]
    congr 2
    · congr 1; omega
    · show _ = mt_row (mt_row σ 45 (fedX x (upd (σ 45) n ((byM x j).toInt8.toInt32)) (n + 1) j)) 44 f
      funext c
      by_cases q : c = 44
      · subst q; rw [mt_row_s, mt_row_s]
      · rw [mt_row_n q, mt_row_n q]
        by_cases q2 : c = 45
        · subst q2; rw [mt_row_s, mt_row_s]
        · rw [mt_row_n q2, mt_row_n q2, mt_row_n q, mt_row_n q2]
theorem m_fedLoop {x : Int32} : ∀ (j n fuel : Nat) (σ : mt_St), j ≤ 4 → n + j ≤ 120 → j < fuel → σ 56 7 = nI n → ∃ f, bX6_feed_38 5000 fuel σ x (nI j - 1) = some (nI (n + j), mt_row (mt_row σ 61 (fedM x (σ 61) n j)) 56 f) ∧ f 7 = nI (n + j) ∧ ∀ k, k ≠ 7 → f k = σ 56 k := by
  intro j
  induction j with
  | zero =>
    intro n fuel σ hj hn hf h
    obtain ⟨fuel, rfl⟩ : ∃ q, fuel = q + 1 := ⟨fuel - 1, by omega⟩
    unfold bX6_feed_38
    rw [if_pos (by decide), h]
    refine ⟨σ 56, ?_, h, fun k _ => rfl⟩
    show some (nI n, σ) = some (nI n, mt_row (mt_row σ 61 (σ 61)) 56 (σ 56))
    rw [mt_row_same, mt_row_same]
  | succ j ih =>
    intro n fuel σ hj hn hf h
    obtain ⟨fuel, rfl⟩ : ∃ q, fuel = q + 1 := ⟨fuel - 1, by omega⟩
    unfold bX6_feed_38
    rw [nI_pred, if_neg (nI_pos (by omega)), h, pu_chkP (pu_in (by omega) (by decide)), pu_bnd, pu_bnd, nI_clamp (by omega), pu_up, pu_up, mt_row_n (show 56 ≠ 61 by decide), h, nI_1]
    obtain ⟨f, e1, e2, e3⟩ := ih (n + 1) fuel (mt_row (mt_row σ 61 (upd (σ 61) n (byM x j))) 56 (upd (σ 56) 7 (nI (n + 1)))) (by omega) (by omega) (by omega) (by rw [mt_row_s, pu_upd_s])
    refine ⟨f, ?_, by rw [e2]; congr 1; omega, fun k hk => by rw [e3 k hk, mt_row_s, pu_upd_n hk]⟩
    rw [pu_m1]
    refine (e1 : bX6_feed_38 5000 fuel (mt_row (mt_row σ 61 (upd (σ 61) n (byM x j))) 56 (upd (σ 56) 7 (nI (n + 1)))) x (nI j - 1) = _).trans ?_
    rw [mt_row_n (show 61 ≠ 56 by decide), mt_row_s]
    congr 2
    · congr 1; omega
    · show _ = mt_row (mt_row σ 61 (fedM x (upd (σ 61) n (byM x j)) (n + 1) j)) 56 f
      funext c
      by_cases q : c = 56
      · subst q; rw [mt_row_s, mt_row_s]
      · rw [mt_row_n q, mt_row_n q]
        by_cases q2 : c = 61
        · subst q2; rw [mt_row_s, mt_row_s]
        · rw [mt_row_n q2, mt_row_n q2, mt_row_n q, mt_row_n q2]
theorem fed_both {x : Int32} : ∀ (j n : Nat) (f g : Nat → Int32), j ≤ 4 → (∀ k, k < n → ∃ b, b < 256 ∧ g k = nI b ∧ f k = (nI b).toInt8.toInt32) → ∀ k, k < n + j → ∃ b, b < 256 ∧ fedM x g n j k = nI b ∧ fedX x f n j k = (nI b).toInt8.toInt32 := by
  intro j
  induction j with
  | zero => intro n f g _ h k hk; exact h k hk
  | succ j ih =>
    intro n f g hj h k hk
    unfold fedM fedX
    refine ih (n + 1) _ _ (by omega) (fun i hi => ?_) k (by omega)
    by_cases q : i = n
    · subst q
      obtain ⟨b, hb, e⟩ := by_n x j (by omega)
      exact ⟨b, hb, by rw [pu_upd_s, e], by rw [pu_upd_s, e]⟩
    · rw [pu_upd_n q, pu_upd_n q]; exact h i (by omega)
theorem m_winL (fu : Nat) (v lo hi : Int32) : fX6_within fu v lo hi = some (if v < lo then 0 else if hi < v then 0 else 1) := by
  unfold fX6_within bX6_within_14 bX6_within_15
  by_cases h1 : v < lo
  · simp [h1]; rfl
  · by_cases h2 : hi < v
    · simp [h1, h2]; rfl
    · simp [h1, h2]; rfl
theorem RR.fed {σ σ' : mt_St} {y : Nat} (h : RR σ y) (ht : RT σ') (e : ∀ c, c ≠ 44 → c ≠ 45 → c ≠ 56 → c ≠ 61 → σ' c = σ c) (e3 : σ' 56 3 = σ 56 3) : RR σ' y := by
  obtain ⟨⟨a, ha⟩, h2, h3, h4, h5⟩ := id h
  exact ⟨⟨a, ha.same (fun c p q => e c (by omega) (by omega) (by omega) (by omega)) (fun k _ => by rw [e 57 (by omega) (by omega) (by omega) (by omega)])⟩, h2.same (fun c p q => e c (by omega) (by omega) (by omega) (by omega)) (e 58 (by omega) (by omega) (by omega) (by omega)) (e 0 (by omega) (by omega) (by omega) (by omega)) e3, h3.same (e 55 (by omega) (by omega) (by omega) (by omega)) (e 60 (by omega) (by omega) (by omega) (by omega)), h4.same (fun c p q => e c (by omega) (by omega) (by omega) (by omega)) (e 64 (by omega) (by omega) (by omega) (by omega)) (e 65 (by omega) (by omega) (by omega) (by omega)) (e 66 (by omega) (by omega) (by omega) (by omega)), ht⟩
theorem e_feed {σ : mt_St} {y : Nat} (h : RR σ y) (u v : Int32) : EV (fun s => fX5_feed 5000 s u v) (fun s => fX6_feed 5000 s u v) σ y := by
  obtain ⟨-, -, -, -, t1, n, hn, en, tb⟩ := id h
  by_cases h1 : v < 1
  · refine EV.find (w := 0) (by decide) h ?_ ?_
    · simp only [fX5_feed, bX5_feed_10, h1, x_find0, pu_ask, pu_call, pu_bnd, pu_chk, pu_b0, pu_b1, bN_t, bN_f, bN_c, i10, i00, if_true, if_false]
    · simp only [fX6_feed, m_winL, h1, m_find0, pu_ask, pu_call, pu_bnd, pu_chk, pu_b0, pu_b1, bN_t, bN_f, bN_c, i10, i00, if_true, if_false]
  by_cases h2 : v ≤ 4
  rotate_left
  · have h2' : (4 : Int32) < v := Int32.not_le.mp h2
    refine EV.find (w := 0) (by decide) h ?_ ?_
    · simp only [fX5_feed, bX5_feed_10, h1, h2, x_find0, pu_ask, pu_call, pu_bnd, pu_chk, pu_b0, pu_b1, bN_t, bN_f, bN_c, i10, i00, if_true, if_false]
    · simp only [fX6_feed, m_winL, h1, h2', m_find0, pu_ask, pu_call, pu_bnd, pu_chk, pu_b0, pu_b1, bN_t, bN_f, bN_c, i10, i00, if_true, if_false]
  have h2' : ¬ (4 : Int32) < v := Int32.not_lt.mpr h2
  obtain ⟨j, hj, rfl⟩ := nI_of2 (x := v) (n := 4) (M := 4) rfl (fun q => h1 (by
    rw [Int32.lt_iff_toInt_lt] at q ⊢
    have e1 : (0 : Int32).toInt = 0 := rfl
    have e2 : (1 : Int32).toInt = 1 := rfl
    omega)) h2
  have em : (σ 56 7) + nI j = nI (n + j) := by rw [t1, en, nI_add]
  have ex : (σ 44 1) + nI j = nI (n + j) := by rw [en, nI_add]
  by_cases h3 : n + j ≤ 120
  rotate_left
  · have h3' : ¬ nI (n + j) ≤ 120 := nI_ge (a := 120) (by omega) (by omega)
    refine EV.find (w := 1) (by decide) h ?_ ?_
    · simp only [fX5_feed, bX5_feed_10, h1, h2, ex, h3', x_find1, pu_ask, pu_call, pu_bnd, pu_chk, pu_b0, pu_b1, bN_t, bN_f, bN_c, i10, i00, if_true, if_false]
    · simp only [fX6_feed, m_winL, h1, h2', x_fs_n (show 56 ≠ 55 by decide), em, h3', m_find1, pu_ask, pu_call, pu_bnd, pu_chk, pu_b0, pu_b1, bN_t, bN_f, bN_c, i10, i00, if_true, if_false]
  have h3' : nI (n + j) ≤ 120 := nI_le (b := 120) h3 (by decide)
  obtain ⟨f, f1, f2⟩ := x_fedLoop (x := u) j n 5000 σ (by omega) (by omega) (by omega) en
  have c56 : mt_row (mt_row σ 45 (fedX u (σ 45) n j)) 44 f 56 = σ 56 := by rw [mt_row_n (by decide), mt_row_n (by decide)]
  obtain ⟨g, g1, g2, g3⟩ := m_fedLoop (x := u) j n 5000 (mt_row (mt_row σ 45 (fedX u (σ 45) n j)) 44 f) (by omega) (by omega) (by omega) (by rw [c56, t1, en])
  rw [mt_row_n (show 61 ≠ 44 by decide), mt_row_n (show 61 ≠ 45 by decide)] at g1
  refine ⟨nI (n + j), mt_row (mt_row σ 45 (fedX u (σ 45) n j)) 44 f, _, ?_, ?_, h.fed (σ' := mt_row (mt_row (mt_row (mt_row σ 45 (fedX u (σ 45) n j)) 44 f) 61 (fedM u (σ 61) n j)) 56 g) ?_ ?_ ?_⟩
  · simp only [fX5_feed, bX5_feed_10, h1, h2, ex, h3', pu_ask, pu_call, pu_bnd, pu_chk, pu_b0, pu_b1, bN_t, bN_f, bN_c, i10, i00, if_true, if_false]
    exact f1
  · simp only [fX6_feed, m_winL, h1, h2', c56, em, h3', pu_ask, pu_call, pu_bnd, pu_chk, pu_b0, pu_b1, bN_t, bN_f, bN_c, i10, i00, if_true, if_false]
    exact g1
  · refine ⟨?_, n + j, h3, ?_, fun k hk => ?_⟩
    · rw [mt_row_s, mt_row_n (by decide), mt_row_n (by decide), mt_row_s, g2, f2]
    · rw [mt_row_n (by decide), mt_row_n (by decide), mt_row_s, f2]
    · rw [mt_row_n (show 61 ≠ 56 by decide), mt_row_s, mt_row_n (show 45 ≠ 56 by decide), mt_row_n (show 45 ≠ 61 by decide), mt_row_n (show 45 ≠ 44 by decide), mt_row_s]
      exact fed_both j n (σ 45) (σ 61) (by omega) tb k hk
  · intro c p q r s
    rw [mt_row_n r, mt_row_n s, mt_row_n p, mt_row_n q]
  · rw [mt_row_s, g3 3 (by decide), c56]
