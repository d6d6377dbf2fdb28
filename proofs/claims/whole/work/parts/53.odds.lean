/-! odds -/
def eu : Nat → Int32 → Int32 → Option Int32
  | 0, _, _ => none
  | n + 1, x5, x6 => if x6 = 0 then some x5 else eu n x6 (x5 - x5 / x6 * x6)
theorem m_eu {σ : mt_St} {x2 x3 x4 : Int32} : ∀ (n : Nat) (x5 x6 g : Int32), eu n x5 x6 = some g → bX6_odds_57 5000 n σ x2 x3 x4 x5 x6 = bX6_odds_86 5000 5000 σ x2 x3 x4 g 1 0 := by
  intro n
  induction n with
  | zero => intro x5 x6 g h; cases h
  | succ n ih =>
    intro x5 x6 g h
    unfold eu at h
    unfold bX6_odds_57
    by_cases q : x6 = 0
    · rw [if_pos q] at h
      rw [if_pos q]
      injection h with h
      rw [h]
    · rw [if_neg q] at h
      rw [if_neg q, pu_chkP (by simp [q])]
      exact ih _ _ _ h
theorem gd_all : ∀ q : Nat, q < 13 → ∃ g : Nat, g < 13 ∧ nI g ≠ 0 ∧ fX5_sharedDivisor 5000 (12 - nI q) 12 = some (nI g) ∧ eu 5000 12 (12 - nI q) = some (nI g) := by decide +kernel
def pwL (b : Int32) : Nat → Int64
  | 0 => 1
  | k + 1 => pwL b k * Int32.toInt64 b
theorem x_pow {b : Int32} {m : Nat} (hm : m ≤ 17) : fX5_power 5000 b (nI m) = some (pwL b m) := by
  have lp : ∀ (d i fuel : Nat), m = i + d → d < fuel → bX5_power_5 5000 fuel b (nI m) (pwL b i) (nI i) = some (pwL b m) := by
    intro d
    induction d with
    | zero =>
      intro i fuel hd hf
      obtain ⟨fuel, rfl⟩ : ∃ q, fuel = q + 1 := ⟨fuel - 1, by omega⟩
      have : i = m := by omega
      subst this
      unfold bX5_power_5
      rw [if_pos (nI_le (Nat.le_refl _) (by omega))]
    | succ d ih =>
      intro i fuel hd hf
      obtain ⟨fuel, rfl⟩ : ∃ q, fuel = q + 1 := ⟨fuel - 1, by omega⟩
      unfold bX5_power_5
      rw [if_neg (nI_ge (by omega) (by omega)), nI_1]
      exact ih (i + 1) fuel (by omega) (by omega)
  unfold fX5_power
  exact lp m 0 5000 (by omega) (by omega)
theorem m_pow {σ : mt_St} {x3 x4 g b : Int32} {m : Nat} (hm : m ≤ 17) (hg : g ≠ 0) (hb : b = (if x3 = 0 then x4 else 12) / g) : bX6_odds_86 5000 5000 σ (nI m) x3 x4 g 1 0 = some (pwL b m, σ) := by
  have lp : ∀ (d i fuel : Nat), m = i + d → d < fuel → bX6_odds_86 5000 fuel σ (nI m) x3 x4 g (pwL b i) (nI i) = some (pwL b m, σ) := by
    intro d
    induction d with
    | zero =>
      intro i fuel hd hf
      obtain ⟨fuel, rfl⟩ : ∃ q, fuel = q + 1 := ⟨fuel - 1, by omega⟩
      have : i = m := by omega
      subst this
      unfold bX6_odds_86
      rw [if_pos (nI_le (Nat.le_refl _) (by omega))]
    | succ d ih =>
      intro i fuel hd hf
      obtain ⟨fuel, rfl⟩ : ∃ q, fuel = q + 1 := ⟨fuel - 1, by omega⟩
      have := ih (i + 1) fuel (by omega) (by omega)
      unfold bX6_odds_86 bX6_odds_105
      rw [if_neg (nI_ge (by omega) (by omega)), pu_chkP (by simp [hg]), pu_chkP (by simp [hg]), nI_1]
      by_cases q : x3 = 0
      · rw [if_pos q] at hb
        rw [if_pos q, ← hb]; exact this
      · rw [if_neg q] at hb
        rw [if_neg q, ← hb]; exact this
  exact lp m 0 5000 (by omega) (by omega)
theorem ev_findL {f g : mt_St → Option (Int64 × mt_St)} {σ : mt_St} {y w : Nat} (hw : w < 7) (h : RR σ y) (hf : f σ = some (Int32.toInt64 (-1000001 - nI w), x_fs σ w)) (hg : g (x_fs σ w) = some (Int32.toInt64 (-1000001 - nI w), m_fs (x_fs σ w) w)) : EV f g σ y := ⟨_, _, _, hf, hg, h.find hw⟩
theorem e_odds {σ : mt_St} {y : Nat} (h : RR σ y) (u v w : Int32) : EV (fun s => fX5_odds 5000 s u v w) (fun s => fX6_odds 5000 s u v w) σ y := by
  obtain ⟨⟨a, ha⟩, -⟩ := id h
  obtain ⟨i7, i1⟩ := ha.isT
  have hn8 := ha.1.n8
  cases h1 : okR u (nI (nA a) - 1)
  · refine ev_findL (w := 0) (by decide) h ?_ ?_
    · simp only [fX5_odds, bX5_odds_25, x_isTreaty, i7, h1, x_find0, pu_ask, pu_call, pu_bnd, pu_chk, pu_b0, pu_b1, bN_t, bN_f, bN_c, i10, i00, if_true, if_false]
    · simp only [fX6_odds, bX6_odds_27, m_isTreaty, x_fs_n (show 57 ≠ 55 by decide), i1, h1, m_find0, pu_ask, pu_call, pu_bnd, pu_chk, pu_b0, pu_b1, bN_t, bN_f, bN_c, i10, i00, if_true, if_false]
  cases h2 : okR v 17
  · refine ev_findL (w := 0) (by decide) h ?_ ?_
    · simp only [fX5_odds, bX5_odds_25, x_isTreaty, x_win, i7, h1, h2, x_find0, pu_ask, pu_call, pu_bnd, pu_chk, pu_b0, pu_b1, bN_t, bN_f, bN_c, i10, i00, if_true, if_false]
    · simp only [fX6_odds, bX6_odds_27, m_isTreaty, m_win, x_fs_n (show 57 ≠ 55 by decide), i1, h1, h2, m_find0, pu_ask, pu_call, pu_bnd, pu_chk, pu_b0, pu_b1, bN_t, bN_f, bN_c, i10, i00, if_true, if_false]
  cases h3 : okR w 1
  · refine ev_findL (w := 0) (by decide) h ?_ ?_
    · simp only [fX5_odds, bX5_odds_25, x_isTreaty, x_win, i7, h1, h2, h3, x_find0, pu_ask, pu_call, pu_bnd, pu_chk, pu_b0, pu_b1, bN_t, bN_f, bN_c, i10, i00, if_true, if_false]
    · simp only [fX6_odds, bX6_odds_27, m_isTreaty, m_win, x_fs_n (show 57 ≠ 55 by decide), i1, h1, h2, h3, m_find0, pu_ask, pu_call, pu_bnd, pu_chk, pu_b0, pu_b1, bN_t, bN_f, bN_c, i10, i00, if_true, if_false]
  obtain ⟨t, ht, rfl⟩ := okT ha.1.n8 h1
  obtain ⟨m, hm, rfl⟩ := okR_nI (m := 17) (by decide) h2
  have hp3 := (ha.wT ht).2.2.2.2.1
  obtain ⟨q, hq, eq⟩ := ps_pc hp3
  obtain ⟨g, hg, hg0, g1, g2⟩ := gd_all q (by omega)
  have x3 : σ (1 + 4 + t) 3 = a (4 + t) 3 := ha.xT ht 3 (by decide)
  have m3 : gT (σ 57) t 3 = a (4 + t) 3 := ha.mT ht 3 (by decide)
  refine ⟨pwL ((if w = 0 then (12 : Int32) - nI q else 12) / nI g) m, σ, σ, ?_, ?_, h⟩
  · show fX5_odds 5000 σ (nI t) (nI m) w = _
    unfold fX5_odds bX5_odds_72
    rw [x_isTreaty, pu_ask, i7, h1, bN_t, if_neg i10', x_win, pu_ask, h2, bN_t, if_neg i10', x_win, pu_ask, h3, bN_t, if_neg i10', pu_chkP (pu_in (show t < 8 by omega) (by decide)), nI_clamp (show t < 2 ^ 31 by omega), show 1 + 2 + 2 + t = 1 + 4 + t by omega, x3, pc_x, pu_ask, eq, g1, pu_ask]
    by_cases z : w = 0
    · rw [if_pos z, if_pos z, pu_chkP (by simp [hg0]), x_pow hm, pu_ask]
    · rw [if_neg z, if_neg z, pu_chkP (by simp [hg0]), x_pow hm, pu_ask]
  · show fX6_odds 5000 σ (nI t) (nI m) w = _
    unfold fX6_odds
    rw [m_isTreaty, pu_ask, i1, h1, bN_t, if_neg i10', m_win, pu_ask, h2, bN_t, if_neg i10', m_win, pu_ask, h3, bN_t, if_neg i10', m_is3 5000 σ (show t < 8 by omega), pu_ask, m3, ms_bits hp3, pu_ask, eq, m_eu 5000 _ _ _ g2]
    exact m_pow hm hg0 rfl
