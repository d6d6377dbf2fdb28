/-! a year in the reference -/
def brk1 (T : Nat → Int32) (up : Int32) : Int32 := if T 4 = 0 then 0 else if pc (T 3 &&& up) ≤ bearsT T up then 0 else 1
def brkF (a : AW) (up : Int32) : Nat → Int32
  | 0 => 0
  | t + 1 => brkF a up t + brk1 (a (4 + t)) up
def brkA (a : AW) : Int32 := brkF a (upA a) (nA a)
def frM (σ σ' : mt_St) : Prop := (∀ c, c ≠ 57 → c ≠ 56 → σ' c = σ c) ∧ ∀ k, k ≠ 5 → σ' 56 k = σ 56 k
theorem frM.rf {σ : mt_St} : frM σ σ := ⟨fun _ _ _ => rfl, fun _ _ => rfl⟩
theorem frM.tr {σ σ' σ'' : mt_St} (h : frM σ σ') (h2 : frM σ' σ'') : frM σ σ'' := ⟨fun c a b => (h2.1 c a b).trans (h.1 c a b), fun k a => (h2.2 k a).trans (h.2 k a)⟩
theorem frM.row {σ : mt_St} {r : Nat → Int32} : frM σ (mt_row σ 57 r) := ⟨fun c a _ => mt_row_n a, fun k _ => by rw [mt_row_n (by decide)]⟩
theorem SM.step {a : AW} {σ σ' : mt_St} {j : Nat} (hj : j < nA a) (h : SM (passJ a j) (σ 57)) (hm : mTr σ σ' j (a (4 + j)) (upA a) (a 0 0)) : SM (passJ a (j + 1)) (σ' 57) := by
  obtain ⟨⟨e0, e1, e3, e4, e5, e7⟩, hl, hs, ht⟩ := h
  obtain ⟨-, -, -, ho, hg, hT⟩ := hm
  rw [passJ_0] at e0 e1 e3 e4 e5 e7
  rw [passJ_1] at hl
  rw [passJ_3] at hs
  rw [nA_passJ] at ht
  refine ⟨?_, ?_, ?_, ?_⟩
  · rw [passJ_0]
    refine ⟨(ho 4 (by omega) (by omega)).trans e0, (ho 5 (by omega) (by omega)).trans e1, ?_, (ho 0 (by omega) (by omega)).trans e4, (ho 2 (by omega) (by omega)).trans e5, (ho 1 (by omega) (by omega)).trans e7⟩
    rw [hg, e3, pu_upd_s, pu_upd_s]
    rfl
  · intro i hi
    rw [passJ_1, ho (6 + i) (by omega) (by omega)]
    exact hl i hi
  · intro i hi
    rw [passJ_3, ho (12 + i) (by omega) (by omega)]
    exact hs i hi
  · intro t htn
    rw [nA_passJ] at htn
    by_cases hjt : t = j
    · subst hjt
      rw [passJ_lt a (Nat.lt_succ_self t)]
      exact hT
    · have hk := ht t htn
      have hsame : tE (fun k => σ' 57 (22 + 8 * t + k)) (fun k => σ 57 (22 + 8 * t + k)) := fun k hk => ho _ (by omega) (by omega)
      by_cases hlt : t < j
      · rw [passJ_lt a hlt] at hk
        rw [passJ_lt a (by omega)]
        exact fun k h8 => (hsame k h8).trans (hk k h8)
      · rw [passJ_ge a (by omega)] at hk
        rw [passJ_ge a (by omega)]
        exact fun k h8 => (hsame k h8).trans (hk k h8)
theorem SM.fin {a : AW} {r : Nat → Int32} (h : SM (passJ a (nA a)) r) : SM (passA a) (upd r 0 (r 0 + 1)) := by
  obtain ⟨⟨e0, e1, e3, e4, e5, e7⟩, hl, hs, ht⟩ := h
  rw [passJ_0] at e0 e1 e3 e4 e5 e7
  rw [passJ_1] at hl
  rw [passJ_3] at hs
  rw [nA_passJ] at ht
  have e4 : r 0 = a 0 4 := e4
  refine ⟨?_, ?_, ?_, ?_⟩
  · rw [passA_0]
    exact ⟨e0, e1, e3, by rw [pu_upd_s, pu_upd_s, e4], e5, e7⟩
  · intro i hi
    rw [passA_1, pu_upd_n (by omega)]
    exact hl i hi
  · intro i hi
    rw [passA_3, pu_upd_n (by omega)]
    exact hs i hi
  · intro t htn k hk
    rw [nA_passA] at htn
    rw [passA_t a htn, ← passJ_lt a htn, ← ht t htn k hk]
    exact pu_upd_n (by omega)
theorem m_yearLoop {a : AW} {y : Nat} (hy : y < 2 ^ 30) (hw : wfA a y) : ∀ (d j fuel : Nat) (σ : mt_St), nA a = j + d → d < fuel → SM (passJ a j) (σ 57) → ∃ σ', bX6_year_38 5000 fuel σ (nI j) = some ((), σ') ∧ SM (passA a) (σ' 57) ∧ frM σ σ' ∧ σ' 56 5 + brkF a (upA a) j = σ 56 5 + brkF a (upA a) (nA a) := by
  obtain ⟨hn8, h7⟩ := hw.n
  have hu := wf_upA hy hw
  intro d
  induction d with
  | zero =>
    intro j fuel σ hd hf h
    obtain ⟨fuel, rfl⟩ : ∃ q, fuel = q + 1 := ⟨fuel - 1, by omega⟩
    have e7 : σ 57 1 = nI (nA a) := by have := h.1.2.2.2.2.2; rw [passJ_0] at this; exact this.trans h7
    have hjn : j = nA a := by omega
    subst hjn
    unfold bX6_year_38
    rw [e7, if_pos (nI_le (Nat.le_refl _) (by omega)), pu_bnd, pu_up]
    refine ⟨_, rfl, ?_, frM.row, ?_⟩
    · rw [mt_row_s]; exact SM.fin h
    · rw [mt_row_n (by decide)]
  | succ d ih =>
    intro j fuel σ hd hf h
    obtain ⟨fuel, rfl⟩ : ∃ q, fuel = q + 1 := ⟨fuel - 1, by omega⟩
    have e7 : σ 57 1 = nI (nA a) := by have := h.1.2.2.2.2.2; rw [passJ_0] at this; exact this.trans h7
    have hj8 : j < 8 := by omega
    have hT0 := h.2.2.2 j (by rw [nA_passJ]; omega)
    rw [passJ_ge a (Nat.le_refl j)] at hT0
    have hT : tE (gT (σ 57) j) (a (4 + j)) := hT0
    have hwT := hw.2.2.2.2.2.2.2 j (by omega)
    have hyd : σ 57 4 = a 0 0 := by have := h.1.1; rw [passJ_0] at this; exact this
    have hup : σ 57 5 = upA a := by have := h.1.2.1; rw [passJ_0] at this; exact this
    have hgd : ∃ g, g ≤ 99999 ∧ σ 57 3 = nI g := by
      obtain ⟨g, h1, h2⟩ := wf_gold (up := upA a) hw.2.2.2.1 j (fun s hs => (hw.2.2.2.2.2.2.2 s (by omega)).2.2.2.2.1)
      refine ⟨g, h1, ?_⟩
      have := h.1.2.2.1
      rw [passJ_0] at this
      exact this.trans h2
    unfold bX6_year_38 bX6_year_71
    rw [e7, if_neg (nI_ge (by omega) (by omega)), m_is4 _ _ hj8, pu_ask, hT 4 (by decide)]
    have key : ∀ σ1, mTr σ σ1 j (a (4 + j)) (upA a) (a 0 0) → ∃ σ', bX6_year_38 5000 fuel σ1 (nI j + 1) = some ((), σ') ∧ SM (passA a) (σ' 57) ∧ frM σ σ' ∧ σ' 56 5 + brkF a (upA a) j = σ 56 5 + brkF a (upA a) (nA a) := by
      intro σ1 hm
      obtain ⟨σ', h1, h2, h3, h4⟩ := ih (j + 1) fuel σ1 (by omega) (by omega) (SM.step (by omega) h hm)
      refine ⟨σ', by rw [nI_1]; exact h1, h2, frM.tr ⟨hm.1, hm.2.1⟩ h3, ?_⟩
      have hb : σ1 56 5 = σ 56 5 + brk1 (a (4 + j)) (upA a) := hm.2.2.1
      have e : brkF a (upA a) (j + 1) = brkF a (upA a) j + brk1 (a (4 + j)) (upA a) := rfl
      rw [e, hb] at h4
      generalize σ' 56 5 = X at h4 ⊢
      generalize brkF a (upA a) j = Y at h4 ⊢
      generalize brk1 (a (4 + j)) (upA a) = Z at h4
      generalize σ 56 5 = V at h4 ⊢
      generalize brkF a (upA a) (nA a) = U at h4 ⊢
      have h5 : (X + Y) + Z = (V + U) + Z := by
        rw [Int32.add_assoc, h4, Int32.add_assoc, Int32.add_comm Z U, ← Int32.add_assoc]
      exact (Int32.add_left_inj Z).mp h5
    rcases hwT.2.2.2.2.2.1 with h4 | h4
    · rw [h4, if_neg (by decide)]
      obtain ⟨σ1, q1, q2⟩ := m_waits (up := upA a) hj8 hT h4 hyd hgd hwT.2.2.2.2.2.2.2.1
      rw [q1, pu_call]
      exact key σ1 q2
    · rw [h4, if_pos rfl]
      obtain ⟨σ1, q1, q2⟩ := m_holds (yard := a 0 0) hj8 hT hwT h4 hup hgd
      rw [q1, pu_call]
      exact key σ1 q2
theorem passJ0_SM {a : AW} {r : Nat → Int32} (h : SM a r) : SM (passJ a 0) (upd r 5 (upA a)) := by
  obtain ⟨⟨e0, e1, e3, e4, e5, e7⟩, hl, hs, ht⟩ := h
  refine ⟨?_, ?_, ?_, ?_⟩
  · rw [passJ_0]
    exact ⟨e0, rfl, e3, e4, e5, e7⟩
  · intro i hi
    rw [passJ_1, pu_upd_n (by omega)]
    exact hl i hi
  · intro i hi
    rw [passJ_3, pu_upd_n (by omega)]
    exact hs i hi
  · intro t htn k hk
    rw [nA_passJ] at htn
    rw [passJ_ge a (Nat.zero_le _), ← ht t htn k hk]
    exact pu_upd_n (by omega)
theorem m_year {a : AW} {y : Nat} {σ : mt_St} (hy : y < 2 ^ 30) (hw : wfA a y) (h : SM a (σ 57)) : ∃ σ', fX6_year 5000 σ = some ((), σ') ∧ SM (passA a) (σ' 57) ∧ frM σ σ' ∧ σ' 56 5 = σ 56 5 + brkA a := by
  obtain ⟨hn8, h7⟩ := hw.n
  obtain ⟨z, hzy, hz⟩ := hw.2.2.2.2.1
  have e4 : σ 57 0 = a 0 4 := h.1.2.2.2.1
  have e5 : σ 57 5 = a 0 1 := h.1.2.1
  have hlt : z % 6 < 6 := Nat.mod_lt _ (by decide)
  have ei : (6 : Int32) + (σ 57 0 - σ 57 0 / 6 * 6) = nI (6 + z % 6) := by
    rw [e4, hz, pu_y6 (by omega)]; exact nI_add 6 (z % 6)
  have ee : σ 57 (Int32.toNatClampNeg (nI (6 + z % 6))) = evA a := by
    unfold evA
    rw [hz, pu_y6 (by omega), nI_clamp (by omega), nI_clamp (by omega)]
    exact h.2.1 _ hlt
  unfold fX6_year bX6_year_36
  rw [ei, pu_chkP (pu_in (by omega) (by decide)), ee, e5]
  have eu : upA a = if 12 ≤ evA a then a 0 1 else a 0 1 ^^^ (1 <<< (evA a &&& 31)) := rfl
  have fin : ∀ r, r = upd (σ 57) 5 (upA a) → ∃ σ', bX6_year_38 5000 5000 (mt_row σ 57 r) 0 = some ((), σ') ∧ SM (passA a) (σ' 57) ∧ frM σ σ' ∧ σ' 56 5 = σ 56 5 + brkA a := by
    intro r hr
    obtain ⟨σ', h1, h2, h3, h4⟩ := m_yearLoop hy hw (nA a) 0 5000 (mt_row σ 57 r) (by omega) (by omega) (by rw [mt_row_s, hr]; exact passJ0_SM h)
    refine ⟨σ', h1, h2, frM.row.tr h3, ?_⟩
    rw [mt_row_n (by decide)] at h4
    rw [show brkF a (upA a) 0 = 0 from rfl, pu_z] at h4
    exact h4
  by_cases c : 12 ≤ evA a
  · rw [if_pos c]
    have hs : mt_row σ 57 (σ 57) = σ := by funext q; unfold mt_row; split <;> simp_all
    have := fin (σ 57) (by rw [eu, if_pos c, ← e5]; funext k; unfold upd; split <;> simp_all)
    rw [hs] at this
    exact this
  · rw [if_neg c, pu_bnd, pu_up]
    exact fin _ (by rw [eu, if_neg c])
theorem m_yearsLoop {a : AW} {y m : Nat} (hm : m < 2 ^ 29) (hy : y < 2 ^ 29) (hw : wfA a y) : ∀ (d i fuel : Nat) (σ : mt_St), m = i + d → d < fuel → SM (yrs i a) (σ 57) → ∃ σ', bX6_yearsGo_2 5000 fuel σ (nI m) (nI i) = some ((), σ') ∧ SM (yrs m a) (σ' 57) ∧ frM σ σ' := by
  intro d
  induction d with
  | zero =>
    intro i fuel σ hd hf h
    obtain ⟨fuel, rfl⟩ : ∃ q, fuel = q + 1 := ⟨fuel - 1, by omega⟩
    have : i = m := by omega
    subst this
    unfold bX6_yearsGo_2
    rw [if_pos (nI_le (Nat.le_refl _) (by omega))]
    exact ⟨σ, rfl, h, frM.rf⟩
  | succ d ih =>
    intro i fuel σ hd hf h
    obtain ⟨fuel, rfl⟩ : ∃ q, fuel = q + 1 := ⟨fuel - 1, by omega⟩
    unfold bX6_yearsGo_2
    obtain ⟨σ1, h1, h2, h3, -⟩ := m_year (y := y + i) (by omega) (wf_yrs i (by omega) hw) h
    rw [if_neg (nI_ge (by omega) (by omega)), h1, pu_call, nI_1]
    obtain ⟨σ', h4, h5, h6⟩ := ih (i + 1) fuel σ1 (by omega) (by omega) h2
    exact ⟨σ', h4, h5, h3.tr h6⟩
theorem m_years {a : AW} {y m : Nat} {σ : mt_St} (hmf : m < 5000) (hy : y < 2 ^ 29) (hw : wfA a y) (h : SM a (σ 57)) : ∃ σ', fX6_yearsGo 5000 σ (nI m) = some ((), σ') ∧ SM (yrs m a) (σ' 57) ∧ frM σ σ' := by
  unfold fX6_yearsGo
  exact m_yearsLoop (by omega) hy hw m 0 5000 σ (by omega) hmf h
/-- a row is copied -/
theorem m_copyLoop {a1 a2 : Nat} (h12 : a1 ≠ a2) : ∀ (d i fuel : Nat) (σ : mt_St), 86 = i + d → d < fuel → ∃ r, bX6_copyRow_2 5000 a1 a2 fuel σ (nI i) = some ((), mt_row σ a2 r) ∧ (∀ k, i ≤ k → k < 86 → r k = σ a1 k) ∧ ∀ k, k < i → r k = σ a2 k := by
  intro d
  induction d with
  | zero =>
    intro i fuel σ hd hf
    obtain ⟨fuel, rfl⟩ : ∃ q, fuel = q + 1 := ⟨fuel - 1, by omega⟩
    have : i = 86 := by omega
    subst this
    unfold bX6_copyRow_2
    rw [if_pos (by decide)]
    refine ⟨σ a2, ?_, fun k a b => by omega, fun k _ => rfl⟩
    congr 2
    funext c; unfold mt_row; split <;> simp_all
  | succ d ih =>
    intro i fuel σ hd hf
    obtain ⟨fuel, rfl⟩ : ∃ q, fuel = q + 1 := ⟨fuel - 1, by omega⟩
    unfold bX6_copyRow_2
    rw [if_neg (show ¬ (86 : Int32) ≤ nI i from nI_ge (b := 86) (by omega) (by decide)), pu_chkP (pu_in (by omega) (by decide)), pu_chkP (pu_in (by omega) (by decide)), pu_bnd, nI_clamp (by omega), nI_1, pu_up]
    obtain ⟨r, h1, h2, h3⟩ := ih (i + 1) fuel (mt_row σ a2 (upd (σ a2) i (σ a1 i))) (by omega) (by omega)
    refine ⟨r, by rw [h1, pu_row_row], fun k a b => ?_, fun k a => ?_⟩
    · by_cases hk : k = i
      · subst hk
        rw [h3 k (by omega), mt_row_s, pu_upd_s]
      · rw [h2 k (by omega) b, mt_row_n h12]
    · rw [h3 k (by omega), mt_row_s, pu_upd_n (by omega)]
theorem m_copy {a1 a2 : Nat} (h12 : a1 ≠ a2) (σ : mt_St) : ∃ r, fX6_copyRow 5000 σ a1 a2 = some ((), mt_row σ a2 r) ∧ ∀ k, k < 86 → r k = σ a1 k := by
  obtain ⟨r, h1, h2, -⟩ := m_copyLoop h12 86 0 5000 σ (by omega) (by omega)
  exact ⟨r, h1, fun k hk => h2 k (Nat.zero_le _) hk⟩
theorem SM.same {a : AW} {r r' : Nat → Int32} (hn : nA a ≤ 8) (h : SM a r) (h2 : ∀ k, k < 86 → r' k = r k) : SM a r' := by
  obtain ⟨⟨e0, e1, e3, e4, e5, e7⟩, hl, hs, ht⟩ := h
  refine ⟨⟨(h2 4 (by omega)).trans e0, (h2 5 (by omega)).trans e1, (h2 3 (by omega)).trans e3, (h2 0 (by omega)).trans e4, (h2 2 (by omega)).trans e5, (h2 1 (by omega)).trans e7⟩, fun i hi => (h2 _ (by omega)).trans (hl i hi), fun i hi => (h2 _ (by omega)).trans (hs i hi), fun t htn k hk => (h2 _ (by omega)).trans (ht t htn k hk)⟩
