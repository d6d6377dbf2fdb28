/-! worlds -/
def tE (f T : Nat → Int32) : Prop := ∀ k, k < 8 → f k = T k
theorem tE_gain {f T : Nat → Int32} (h : tE f T) (up : Int32) : gainT f up = gainT T up := by
  have h0 := h 0 (by decide); have h3 := h 3 (by decide); have h4 := h 4 (by decide); have h5 := h 5 (by decide)
  unfold gainT bearsT yieldsT
  simp only [h0, h3, h4, h5]
theorem tE_bears {f T : Nat → Int32} (h : tE f T) (up : Int32) : bearsT f up = bearsT T up := by
  have h0 := h 0 (by decide); have h3 := h 3 (by decide); have h5 := h 5 (by decide)
  unfold bearsT
  simp only [h0, h3, h5]
theorem tE_upd {f T : Nat → Int32} (h : tE f T) (k : Nat) (v : Int32) : tE (upd f k v) (upd T k v) := by
  intro j hj
  unfold upd
  split
  · rfl
  · exact h j hj
theorem tE_rfl (T : Nat → Int32) : tE T T := fun _ _ => rfl
theorem tE_fade {f T : Nat → Int32} (h : tE f T) : tE (fadeT f) (fadeT T) := by
  have h0 := h 0 (by decide); have h3 := h 3 (by decide); have h5 := h 5 (by decide)
  have e : fadesT f = fadesT T := by unfold fadesT; simp only [h0]
  unfold fadeT
  rw [e, h3, h5]
  split
  · exact h
  · split
    · exact tE_upd h _ _
    · exact h
theorem tE_await {f T : Nat → Int32} (h : tE f T) (yard : Int32) : tE (awaitT f yard) (awaitT T yard) := by
  have h0 := h 0 (by decide); have h6 := h 6 (by decide)
  have e : renewsT f = renewsT T := by unfold renewsT; simp only [h0]
  unfold awaitT
  rw [e, h6]
  split
  · exact tE_upd h _ _
  · split
    · exact tE_upd h _ _
    · exact tE_upd (tE_upd (tE_upd (tE_upd (tE_upd h _ _) _ _) _ _) _ _) _ _
theorem tE_live {f T : Nat → Int32} (h : tE f T) (up yard : Int32) : tE (liveT f up yard) (liveT T up yard) := by
  have h3 := h 3 (by decide); have h4 := h 4 (by decide); have h5 := h 5 (by decide); have h7 := h 7 (by decide)
  unfold liveT
  rw [tE_bears h, h3, h4, h5, h7]
  split
  · exact tE_await h _
  · split
    · exact tE_fade (tE_upd h _ _)
    · exact tE_upd (tE_upd (tE_upd (tE_upd h _ _) _ _) _ _) _ _
abbrev AW : Type := Nat → Nat → Int32
def nA (a : AW) : Nat := (a 0 7).toNatClampNeg
def tog (up e : Int32) : Int32 := if 12 ≤ e then up else up ^^^ (1 <<< (e &&& 31))
def evA (a : AW) : Int32 := a 1 (Int32.toNatClampNeg (a 0 4 - a 0 4 / 6 * 6))
def upA (a : AW) : Int32 := tog (a 0 1) (evA a)
def goldF (a : AW) (up : Int32) : Nat → Int32
  | 0 => a 0 3
  | t + 1 => mt_min (goldF a up t + gainT (a (4 + t)) up) 99999
/-- j treaties of a year are through -/
def passJ (a : AW) (j : Nat) : AW := fun c => if c = 0 then upd (upd (a 0) 1 (upA a)) 3 (goldF a (upA a) j) else if 4 ≤ c ∧ c < 4 + j then liveT (a c) (upA a) (a 0 0) else a c
def passA (a : AW) : AW := fun c => if c = 0 then upd (upd (upd (a 0) 1 (upA a)) 3 (goldF a (upA a) (nA a))) 4 (a 0 4 + 1) else if 4 ≤ c ∧ c < 4 + nA a then liveT (a c) (upA a) (a 0 0) else a c
def wfT (T : Nat → Int32) : Prop := (∃ j, j ≤ 6 ∧ T 0 = nI j) ∧ (∃ j, j ≤ 5 ∧ T 1 = nI j) ∧ (∃ j, j ≤ 5 ∧ T 2 = nI j) ∧ T 1 ≠ T 2 ∧ ps_S (T 3) ∧ (T 4 = 0 ∨ T 4 = 1) ∧ (∃ j, j ≤ 9999 ∧ T 5 = nI j) ∧ (∃ j, j ≤ 9999 ∧ T 6 = nI j) ∧ (∃ j, j ≤ 9999 ∧ T 7 = nI j)
/-- a world within its limits, its year at most y -/
def wfA (a : AW) (y : Nat) : Prop := (∃ n, n ≤ 8 ∧ a 0 7 = nI n) ∧ ps_S (a 0 0) ∧ ps_S (a 0 1) ∧ (∃ g, g ≤ 99999 ∧ a 0 3 = nI g) ∧ (∃ z, z ≤ y ∧ a 0 4 = nI z) ∧ (∀ i, i < 6 → ∃ e, e ≤ 12 ∧ a 1 i = nI e) ∧ (∀ i, i < 10 → a 3 i = -1 ∨ ∃ t, t < nA a ∧ a 3 i = nI t) ∧ ∀ t, t < nA a → wfT (a (4 + t))
def SX (a : AW) (σ : mt_St) (w : Nat) : Prop := (σ w 0 = a 0 0 ∧ σ w 1 = a 0 1 ∧ σ w 3 = a 0 3 ∧ σ w 4 = a 0 4 ∧ σ w 5 = a 0 5 ∧ σ w 7 = a 0 7) ∧ (∀ i, i < 6 → σ (w + 1) i = a 1 i) ∧ (∀ i, i < 10 → σ (w + 3) i = a 3 i) ∧ ∀ t, t < nA a → tE (σ (w + 4 + t)) (a (4 + t))
def SM (a : AW) (r : Nat → Int32) : Prop := (r 4 = a 0 0 ∧ r 5 = a 0 1 ∧ r 3 = a 0 3 ∧ r 0 = a 0 4 ∧ r 2 = a 0 5 ∧ r 1 = a 0 7) ∧ (∀ i, i < 6 → r (6 + i) = a 1 i) ∧ (∀ i, i < 10 → r (12 + i) = a 3 i) ∧ ∀ t, t < nA a → tE (fun k => r (22 + 8 * t + k)) (a (4 + t))
/-- nothing but the cells of the world w has changed -/
def frW (w : Nat) (σ σ' : mt_St) : Prop := ∀ c, c < w ∨ w + 12 ≤ c → σ' c = σ c
theorem frW.rf {w : Nat} {σ : mt_St} : frW w σ σ := fun _ _ => rfl
theorem frW.tr {w : Nat} {σ σ' σ'' : mt_St} (h : frW w σ σ') (h2 : frW w σ' σ'') : frW w σ σ'' := fun c hc => (h2 c hc).trans (h c hc)
theorem frW.row {w c : Nat} {σ : mt_St} {f : Nat → Int32} (h1 : w ≤ c) (h2 : c < w + 12) : frW w σ (mt_row σ c f) := fun c' hc => mt_row_n (by omega)
theorem nA_n {a : AW} {n : Nat} (hn : n ≤ 8) (h : a 0 7 = nI n) : nA a = n := by unfold nA; rw [h]; exact nI_clamp (by omega)
theorem pu_in {j n : Nat} (h : j < n) (hn : n < 2 ^ 31) : mt_in (nI j) n = true := mt_in_iff.mpr (vp_in_nI h hn)
theorem pu_lit (n : Nat) : (OfNat.ofNat n : Int32) = nI n := rfl
theorem x_tog (fu : Nat) (u e : Int32) : fX5_toggled fu u e = some (tog u e) := by
  unfold fX5_toggled bX5_toggled_15 tog
  split <;> rfl
/-- the year's rest by 6 -/
theorem pu_y6 {z : Nat} (h : z < 2 ^ 31) : nI z - nI z / 6 * 6 = nI (z % 6) := pk_rem (a := z) (d := 6) h (by decide) (by decide)
theorem passJ_0 (a : AW) (j : Nat) : passJ a j 0 = upd (upd (a 0) 1 (upA a)) 3 (goldF a (upA a) j) := by simp [passJ]
theorem passJ_1 (a : AW) (j : Nat) : passJ a j 1 = a 1 := by simp [passJ]
theorem passJ_3 (a : AW) (j : Nat) : passJ a j 3 = a 3 := by simp [passJ]
theorem passJ_lt (a : AW) {j t : Nat} (h : t < j) : passJ a j (4 + t) = liveT (a (4 + t)) (upA a) (a 0 0) := by
  unfold passJ; rw [if_neg (by omega), if_pos (by omega)]
theorem passJ_ge (a : AW) {j t : Nat} (h : j ≤ t) : passJ a j (4 + t) = a (4 + t) := by
  unfold passJ; rw [if_neg (by omega), if_neg (by omega)]
theorem nA_passJ (a : AW) (j : Nat) : nA (passJ a j) = nA a := by unfold nA; rw [passJ_0]; rfl
theorem passA_0 (a : AW) : passA a 0 = upd (upd (upd (a 0) 1 (upA a)) 3 (goldF a (upA a) (nA a))) 4 (a 0 4 + 1) := by simp [passA]
theorem passA_1 (a : AW) : passA a 1 = a 1 := by simp [passA]
theorem passA_3 (a : AW) : passA a 3 = a 3 := by simp [passA]
theorem passA_t (a : AW) {t : Nat} (h : t < nA a) : passA a (4 + t) = liveT (a (4 + t)) (upA a) (a 0 0) := by
  unfold passA; rw [if_neg (by omega), if_pos (by omega)]
theorem nA_passA (a : AW) : nA (passA a) = nA a := by unfold nA; rw [passA_0]; rfl
theorem SX.passStep {a : AW} {σ : mt_St} {w j : Nat} (hj : j < nA a) (h : SX (passJ a j) σ w) : SX (passJ a (j + 1)) (mt_up (mt_row σ (w + 4 + j) (liveT (σ (w + 4 + j)) (σ w 1) (σ w 0))) w 3 (mt_min (σ w 3 + gainT (σ (w + 4 + j)) (σ w 1)) 99999)) w := by
  obtain ⟨⟨e0, e1, e3, e4, e5, e7⟩, hl, hs, ht⟩ := h
  rw [passJ_0] at e0 e1 e3 e4 e5 e7
  rw [passJ_1] at hl
  rw [passJ_3] at hs
  rw [nA_passJ] at ht
  have e0 : σ w 0 = a 0 0 := e0
  have e1 : σ w 1 = upA a := e1
  have e3 : σ w 3 = goldF a (upA a) j := e3
  have hjj := ht j hj
  rw [passJ_ge a (Nat.le_refl j)] at hjj
  have ew : (mt_row σ (w + 4 + j) (liveT (σ (w + 4 + j)) (σ w 1) (σ w 0))) w = σ w := mt_row_n (by omega)
  refine ⟨?_, ?_, ?_, ?_⟩
  · rw [passJ_0, pu_up, mt_row_s, ew]
    refine ⟨e0, e1, ?_, e4, e5, e7⟩
    rw [pu_upd_s, pu_upd_s, e1, e3, tE_gain hjj]
    rfl
  · intro i hi
    rw [passJ_1, pu_up, mt_row_n (by omega), mt_row_n (by omega)]
    exact hl i hi
  · intro i hi
    rw [passJ_3, pu_up, mt_row_n (by omega), mt_row_n (by omega)]
    exact hs i hi
  · intro t htn
    rw [nA_passJ] at htn
    rw [pu_up, mt_row_n (by omega)]
    by_cases hjt : t = j
    · subst hjt
      rw [mt_row_s, passJ_lt a (Nat.lt_succ_self t), e1, e0]
      exact tE_live hjj _ _
    · rw [mt_row_n (by omega)]
      have := ht t htn
      by_cases hlt : t < j
      · rw [passJ_lt a hlt] at this
        rw [passJ_lt a (by omega)]
        exact this
      · rw [passJ_ge a (by omega)] at this
        rw [passJ_ge a (by omega)]
        exact this
theorem pu_min_lt {z m : Nat} (h : z ≤ m) (hm : m < 2 ^ 31) : mt_min (nI z) (nI m) = nI z := by
  unfold mt_min
  rw [if_neg (nI_nlt h hm)]
theorem pu_min_ge {z m : Nat} (h : m ≤ z) (hz : z < 2 ^ 31) : mt_min (nI z) (nI m) = nI m := by
  unfold mt_min
  by_cases q : m = z
  · subst q; split <;> rfl
  · rw [if_pos (nI_lt (by omega) hz)]
theorem pu_min (z m : Nat) (hz : z < 2 ^ 31) (hm : m < 2 ^ 31) : mt_min (nI z) (nI m) = nI (min z m) := by
  by_cases h : z ≤ m
  · rw [pu_min_lt h hm, Nat.min_eq_left h]
  · rw [pu_min_ge (by omega) hz, Nat.min_eq_right (by omega)]
theorem pu_min' (z m : Nat) (hz : z < 2 ^ 31) (hm : m < 2 ^ 31) : mt_min (nI m) (nI z) = nI (min z m) := by
  rw [pu_min m z hm hz, Nat.min_comm]
theorem SX.passEnd {a : AW} {σ : mt_St} {w z : Nat} (hz : a 0 4 = nI z) (hz9 : z < 99999) (h : SX (passJ a (nA a)) σ w) : SX (passA a) (mt_up σ w 4 (mt_min (σ w 4 + 1) 99999)) w := by
  obtain ⟨⟨e0, e1, e3, e4, e5, e7⟩, hl, hs, ht⟩ := h
  rw [passJ_0] at e0 e1 e3 e4 e5 e7
  rw [passJ_1] at hl
  rw [passJ_3] at hs
  rw [nA_passJ] at ht
  have e4 : σ w 4 = a 0 4 := e4
  have em : mt_min (σ w 4 + 1) 99999 = a 0 4 + 1 := by
    rw [e4, hz, nI_1]
    exact pu_min_lt (m := 99999) (by omega) (by decide)
  refine ⟨?_, ?_, ?_, ?_⟩
  · rw [passA_0, pu_up, mt_row_s, em]
    exact ⟨e0, e1, e3, rfl, e5, e7⟩
  · intro i hi
    rw [passA_1, pu_up, mt_row_n (by omega)]
    exact hl i hi
  · intro i hi
    rw [passA_3, pu_up, mt_row_n (by omega)]
    exact hs i hi
  · intro t htn
    rw [nA_passA] at htn
    rw [pu_up, mt_row_n (by omega), passA_t a htn, ← passJ_lt a htn]
    exact ht t htn
theorem x_passLoop {fu w z : Nat} {a : AW} (hn8 : nA a ≤ 8) (hz : a 0 4 = nI z) (hz9 : z < 99999) (h7 : a 0 7 = nI (nA a)) : ∀ (d j fuel : Nat) (σ : mt_St), nA a = j + d → d < fuel → SX (passJ a j) σ w → ∃ σ', bX4_pass_25 fu w fuel σ (nI j) = some ((), σ') ∧ SX (passA a) σ' w ∧ frW w σ σ' := by
  intro d
  induction d with
  | zero =>
    intro j fuel σ hd hf h
    obtain ⟨fuel, rfl⟩ : ∃ q, fuel = q + 1 := ⟨fuel - 1, by omega⟩
    have e7 : σ w 7 = nI (nA a) := by have := h.1.2.2.2.2.2; rw [passJ_0] at this; exact this.trans h7
    have hjn : j = nA a := by omega
    subst hjn
    unfold bX4_pass_25
    rw [e7, if_pos (nI_le (Nat.le_refl _) (by omega)), pu_bnd]
    exact ⟨_, rfl, SX.passEnd hz hz9 h, frW.row (Nat.le_refl _) (by omega)⟩
  | succ d ih =>
    intro j fuel σ hd hf h
    obtain ⟨fuel, rfl⟩ : ∃ q, fuel = q + 1 := ⟨fuel - 1, by omega⟩
    have e7 : σ w 7 = nI (nA a) := by have := h.1.2.2.2.2.2; rw [passJ_0] at this; exact this.trans h7
    unfold bX4_pass_25
    have hw : w + 2 + 2 + Int32.toNatClampNeg (nI j) = w + 4 + j := by rw [nI_clamp (by omega)]
    rw [e7, if_neg (nI_ge (by omega) (by omega)), pu_chkP (pu_in (by omega) (by decide)), hw, x_live, pu_call, pu_bnd, nI_1]
    obtain ⟨σ', h1, h2, h3⟩ := ih (j + 1) fuel _ (by omega) (by omega) (SX.passStep (by omega) h)
    refine ⟨σ', h1, h2, frW.tr (frW.tr (frW.row (c := w + 4 + j) (by omega) (by omega)) (frW.row (c := w) (by omega) (by omega))) h3⟩
theorem passJ0_SX {a : AW} {σ : mt_St} {w : Nat} (h : SX a σ w) : SX (passJ a 0) (mt_up σ w 1 (upA a)) w := by
  obtain ⟨⟨e0, e1, e3, e4, e5, e7⟩, hl, hs, ht⟩ := h
  refine ⟨?_, ?_, ?_, ?_⟩
  · rw [passJ_0, pu_up, mt_row_s]
    exact ⟨e0, rfl, e3, e4, e5, e7⟩
  · intro i hi
    rw [passJ_1, pu_up, mt_row_n (by omega)]
    exact hl i hi
  · intro i hi
    rw [passJ_3, pu_up, mt_row_n (by omega)]
    exact hs i hi
  · intro t htn
    rw [nA_passJ] at htn
    rw [pu_up, mt_row_n (by omega), passJ_ge a (Nat.zero_le _)]
    exact ht t htn
theorem wfA.n {a : AW} {y : Nat} (h : wfA a y) : nA a ≤ 8 ∧ a 0 7 = nI (nA a) := by
  obtain ⟨⟨n, hn, e⟩, -⟩ := h
  rw [nA_n hn e]
  exact ⟨hn, e⟩
theorem x_pass {fu w y : Nat} {a : AW} {σ : mt_St} (hfu : 10 < fu) (hy : y < 99999) (hw : wfA a y) (h : SX a σ w) : ∃ σ', fX4_pass fu σ w = some ((), σ') ∧ SX (passA a) σ' w ∧ frW w σ σ' := by
  obtain ⟨hn8, h7⟩ := hw.n
  obtain ⟨z, hzy, hz⟩ := hw.2.2.2.2.1
  unfold fX4_pass
  have e4 := h.1.2.2.2.1
  have e1 := h.1.2.1
  have ei : σ w 4 - σ w 4 / 6 * 6 = nI (z % 6) := by rw [e4, hz]; exact pu_y6 (by omega)
  have hlt : z % 6 < 6 := Nat.mod_lt _ (by decide)
  have ee : σ (w + 1) (Int32.toNatClampNeg (nI (z % 6))) = evA a := by
    unfold evA
    rw [hz, pu_y6 (by omega), nI_clamp (by omega)]
    exact h.2.1 _ hlt
  rw [ei, pu_chkP (pu_in hlt (by decide)), ee, e1, x_tog, pu_ask, pu_bnd]
  obtain ⟨σ', h1, h2, h3⟩ := x_passLoop (fu := fu) hn8 hz (by omega) h7 (nA a) 0 fu (mt_up σ w 1 (upA a)) (by omega) (by omega) (passJ0_SX h)
  exact ⟨σ', h1, h2, frW.tr (frW.row (c := w) (by omega) (by omega)) h3⟩
