/-! the reference: all lies in the row 57 (and 'broke' in 56) -/
def gT (r : Nat → Int32) (t : Nat) : Nat → Int32 := fun k => r (22 + 8 * t + k)
theorem m_ix (t k : Nat) : (22 : Int32) + (8 : Int32) * nI t + nI k = nI (22 + 8 * t + k) := by
  rw [show (8 : Int32) = nI 8 from rfl, show (22 : Int32) = nI 22 from rfl, pk_mul, nI_add, nI_add]
theorem m_at0 (fu t : Nat) : fX6_treatyAt fu (nI t) 0 = some (nI (22 + 8 * t + 0)) := congrArg some (m_ix t 0)
theorem m_is0 (fu : Nat) {t : Nat} (σ : mt_St) (ht : t < 8) : fX6_treatyIs fu σ (nI t) 0 = some (gT (σ 57) t 0) := by
  unfold fX6_treatyIs
  rw [m_at0, pu_ask, pu_chkP (pu_in (by omega) (by decide)), nI_clamp (by omega)]
  rfl
theorem m_at1 (fu t : Nat) : fX6_treatyAt fu (nI t) 1 = some (nI (22 + 8 * t + 1)) := congrArg some (m_ix t 1)
theorem m_is1 (fu : Nat) {t : Nat} (σ : mt_St) (ht : t < 8) : fX6_treatyIs fu σ (nI t) 1 = some (gT (σ 57) t 1) := by
  unfold fX6_treatyIs
  rw [m_at1, pu_ask, pu_chkP (pu_in (by omega) (by decide)), nI_clamp (by omega)]
  rfl
theorem m_at2 (fu t : Nat) : fX6_treatyAt fu (nI t) 2 = some (nI (22 + 8 * t + 2)) := congrArg some (m_ix t 2)
theorem m_is2 (fu : Nat) {t : Nat} (σ : mt_St) (ht : t < 8) : fX6_treatyIs fu σ (nI t) 2 = some (gT (σ 57) t 2) := by
  unfold fX6_treatyIs
  rw [m_at2, pu_ask, pu_chkP (pu_in (by omega) (by decide)), nI_clamp (by omega)]
  rfl
theorem m_at3 (fu t : Nat) : fX6_treatyAt fu (nI t) 3 = some (nI (22 + 8 * t + 3)) := congrArg some (m_ix t 3)
theorem m_is3 (fu : Nat) {t : Nat} (σ : mt_St) (ht : t < 8) : fX6_treatyIs fu σ (nI t) 3 = some (gT (σ 57) t 3) := by
  unfold fX6_treatyIs
  rw [m_at3, pu_ask, pu_chkP (pu_in (by omega) (by decide)), nI_clamp (by omega)]
  rfl
theorem m_at4 (fu t : Nat) : fX6_treatyAt fu (nI t) 4 = some (nI (22 + 8 * t + 4)) := congrArg some (m_ix t 4)
theorem m_is4 (fu : Nat) {t : Nat} (σ : mt_St) (ht : t < 8) : fX6_treatyIs fu σ (nI t) 4 = some (gT (σ 57) t 4) := by
  unfold fX6_treatyIs
  rw [m_at4, pu_ask, pu_chkP (pu_in (by omega) (by decide)), nI_clamp (by omega)]
  rfl
theorem m_at5 (fu t : Nat) : fX6_treatyAt fu (nI t) 5 = some (nI (22 + 8 * t + 5)) := congrArg some (m_ix t 5)
theorem m_is5 (fu : Nat) {t : Nat} (σ : mt_St) (ht : t < 8) : fX6_treatyIs fu σ (nI t) 5 = some (gT (σ 57) t 5) := by
  unfold fX6_treatyIs
  rw [m_at5, pu_ask, pu_chkP (pu_in (by omega) (by decide)), nI_clamp (by omega)]
  rfl
theorem m_at6 (fu t : Nat) : fX6_treatyAt fu (nI t) 6 = some (nI (22 + 8 * t + 6)) := congrArg some (m_ix t 6)
theorem m_is6 (fu : Nat) {t : Nat} (σ : mt_St) (ht : t < 8) : fX6_treatyIs fu σ (nI t) 6 = some (gT (σ 57) t 6) := by
  unfold fX6_treatyIs
  rw [m_at6, pu_ask, pu_chkP (pu_in (by omega) (by decide)), nI_clamp (by omega)]
  rfl
theorem m_at7 (fu t : Nat) : fX6_treatyAt fu (nI t) 7 = some (nI (22 + 8 * t + 7)) := congrArg some (m_ix t 7)
theorem m_is7 (fu : Nat) {t : Nat} (σ : mt_St) (ht : t < 8) : fX6_treatyIs fu σ (nI t) 7 = some (gT (σ 57) t 7) := by
  unfold fX6_treatyIs
  rw [m_at7, pu_ask, pu_chkP (pu_in (by omega) (by decide)), nI_clamp (by omega)]
  rfl
theorem m_more {fu i : Nat} {σ : mt_St} {b h : Int32} (hi : i < 86) : fX6_more fu σ (nI i) b h = some ((), mt_row σ 57 (upd (σ 57) i (mt_min h (σ 57 i + b)))) := by
  unfold fX6_more
  rw [pu_chkP (pu_in hi (by decide)), pu_chkP (pu_in hi (by decide)), pu_bnd, nI_clamp (by omega)]
  rfl
theorem ms_bits {x : Int32} (h : ps_S x) : fX6_bits 5000 x = some (pc x) := by
  obtain ⟨j, hj, rfl⟩ := h
  exact m_bits j hj
theorem m_bears {t : Nat} {σ : mt_St} (ht : t < 8) (h3 : ps_S (gT (σ 57) t 3)) : fX6_bears 5000 σ (nI t) = some (bearsT (gT (σ 57) t) (σ 57 5)) := by
  obtain ⟨j, hj, ej⟩ := ps_and (y := σ 57 5) h3
  have hd := m_dyn j hj
  unfold fX6_bears bX6_bears_16 bX6_bears_95 bearsT
  simp only [m_is5 _ _ ht, m_is0 _ _ ht, m_is3 _ _ ht, pu_ask, ej]
  by_cases hq : nI j &&& 2048 = 0
  · have hn : ¬ nI j >>> ((11 : Int32) &&& 31) = 1 := fun q => (hd.mp q) hq
    simp only [hq, hn, if_true, if_false]
    repeat' split
    all_goals first | rfl | contradiction
  · have hn : nI j >>> ((11 : Int32) &&& 31) = 1 := hd.mpr hq
    simp only [hq, hn, if_true, if_false]
    repeat' split
    all_goals first | rfl | contradiction
theorem m_fades {fu t : Nat} {σ : mt_St} (ht : t < 8) : fX6_fades fu σ (nI t) = some (fadesT (gT (σ 57) t)) := by
  unfold fX6_fades fadesT
  rw [m_is0 _ _ ht, pu_ask]
  repeat' split
  all_goals first | rfl | contradiction
theorem m_renews {fu t : Nat} {σ : mt_St} (ht : t < 8) : fX6_renews fu σ (nI t) = some (renewsT (gT (σ 57) t)) := by
  unfold fX6_renews renewsT
  rw [m_is0 _ _ ht, pu_ask]
  repeat' split
  all_goals first | rfl | contradiction
theorem m_yields {t : Nat} {σ : mt_St} (ht : t < 8) (h3 : ps_S (gT (σ 57) t 3)) : fX6_yields 5000 σ (nI t) = some (yieldsT (gT (σ 57) t)) := by
  unfold fX6_yields bX6_yields_66 bX6_yields_79 yieldsT
  rw [m_is3 _ _ ht, pu_ask, ms_bits h3, pu_ask, m_is0 _ _ ht, pu_ask]
  obtain ⟨j, hj, ej⟩ := h3
  obtain ⟨q, hq, eq⟩ := pc_le j hj
  have hz := m_pc0 j hj
  rw [ej]
  have e3 : (1 : Int32) + pc (nI j) + 2 = 3 + pc (nI j) := by
    rw [eq, show (1 : Int32) = nI 1 from rfl, show (2 : Int32) = nI 2 from rfl, show (3 : Int32) = nI 3 from rfl, nI_add, nI_add, nI_add]
    congr 1
    omega
  rw [e3]
  by_cases h0 : nI j = 0
  · have h1 := hz.mpr h0
    simp only [h1, h0, if_true]
    repeat' split
    all_goals first | rfl | contradiction
  · have h1 : ¬ (1 : Int32) + pc (nI j) = 1 := fun q => h0 (hz.mp q)
    simp only [h1, h0, if_false]
    repeat' split
    all_goals first | rfl | contradiction
theorem m_upIn {t : Nat} {σ : mt_St} (ht : t < 8) (h3 : ps_S (gT (σ 57) t 3)) : fX6_upIn 5000 σ (nI t) = some (pc (gT (σ 57) t 3 &&& σ 57 5)) := by
  unfold fX6_upIn
  rw [m_is3 _ _ ht, pu_ask, ms_bits (ps_and h3), pu_ask]
theorem gT_upd (r : Nat → Int32) (t k : Nat) (v : Int32) : gT (upd r (22 + 8 * t + k) v) t = upd (gT r t) k v := by
  funext j
  unfold gT upd
  by_cases h : j = k
  · subst h; simp
  · rw [if_neg (by omega), if_neg h]
theorem m_fadeLoop {fu t : Nat} {mark : Int32} {σ : mt_St} (ht : t < 8) (hm : gT (σ 57) t 3 = mark) : ∀ f fuel : Nat, f ≤ 12 → f < fuel → bX6_fadesNow_10 fu fuel σ (nI t) mark (nI f - 1) = some ((), mt_row σ 57 (upd (σ 57) (22 + 8 * t + 3) (hbM mark f))) := by
  intro f
  induction f with
  | zero =>
    intro fuel hf hfl
    obtain ⟨fuel, rfl⟩ : ∃ q, fuel = q + 1 := ⟨fuel - 1, by omega⟩
    unfold bX6_fadesNow_10
    rw [if_pos (by decide)]
    have e : upd (σ 57) (22 + 8 * t + 3) (hbM mark 0) = σ 57 := by
      funext j
      unfold upd hbM
      split
      · rename_i hj; subst hj; exact hm.symm
      · rfl
    rw [e]
    congr 2
    funext c
    unfold mt_row
    split
    · rename_i hc; subst hc; rfl
    · rfl
  | succ f ih =>
    intro fuel hf hfl
    obtain ⟨fuel, rfl⟩ : ∃ q, fuel = q + 1 := ⟨fuel - 1, by omega⟩
    unfold bX6_fadesNow_10 hbM
    rw [nI_pred, if_neg (nI_pos (by omega))]
    by_cases hb : ((mark >>> (nI f &&& 31)) &&& 1) = 1
    · rw [if_pos hb, if_pos hb, m_at3, pu_ask, pu_chkP (pu_in (by omega) (by decide)), pu_bnd, nI_clamp (by omega)]
      rfl
    · rw [if_neg hb, if_neg hb]
      have e : nI f + -1 = nI f - 1 := by rw [Int32.sub_eq_add_neg]
      rw [e]
      exact ih fuel (by omega) (by omega)
theorem m_fadesNow {t : Nat} {σ : mt_St} (ht : t < 8) (h3 : ps_S (gT (σ 57) t 3)) : fX6_fadesNow 5000 σ (nI t) = some ((), mt_row σ 57 (upd (σ 57) (22 + 8 * t + 3) (gT (σ 57) t 3 &&& (hob (gT (σ 57) t 3) ^^^ (-1))))) := by
  unfold fX6_fadesNow
  rw [m_is3 _ _ ht, pu_ask]
  have h := m_fadeLoop (fu := 5000) (σ := σ) ht rfl 12 5000 (by omega) (by omega)
  rw [show nI 12 - 1 = (11 : Int32) from by decide] at h
  rw [h]
  obtain ⟨j, hj, ej⟩ := h3
  rw [ej, hbM_eq j hj]
/-- what a year does to treaty t in the reference -/
def mTr (σ σ' : mt_St) (t : Nat) (T : Nat → Int32) (up yard : Int32) : Prop :=
  (∀ c, c ≠ 57 → c ≠ 56 → σ' c = σ c) ∧ (∀ k, k ≠ 5 → σ' 56 k = σ 56 k) ∧ σ' 56 5 = σ 56 5 + (if T 4 = 0 then 0 else if pc (T 3 &&& up) ≤ bearsT T up then 0 else 1) ∧ (∀ q, q < 22 + 8 * t ∨ 30 + 8 * t ≤ q → q ≠ 3 → σ' 57 q = σ 57 q) ∧ σ' 57 3 = mt_min (σ 57 3 + gainT T up) 99999 ∧ tE (gT (σ' 57) t) (liveT T up yard)
theorem pu_minc {x : Int32} {m : Nat} (h : ∃ j, j ≤ m ∧ x = nI j) (hm : m < 2 ^ 30) : mt_min (nI m) (x + 1) = mt_min (x + 1) (nI m) := by
  obtain ⟨j, hj, rfl⟩ := h
  rw [nI_1, pu_min (j + 1) m (by omega) (by omega), pu_min' (j + 1) m (by omega) (by omega)]
theorem pu_g0 {x : Int32} (hg : ∃ g, g ≤ 99999 ∧ x = nI g) : mt_min (x + 0) 99999 = x := by
  obtain ⟨g, hg, rfl⟩ := hg
  rw [show (0 : Int32) = nI 0 from rfl, nI_add, show (99999 : Int32) = nI 99999 from rfl, pu_min_lt (by omega) (by decide), Nat.add_zero]
theorem pu_z (x : Int32) : x + 0 = x := by simp
theorem mTr_row {σ : mt_St} {r' : Nat → Int32} {t : Nat} {T : Nat → Int32} {up yard : Int32} (hb : (if T 4 = 0 then (0 : Int32) else if pc (T 3 &&& up) ≤ bearsT T up then 0 else 1) = 0) (h1 : ∀ q, q < 22 + 8 * t ∨ 30 + 8 * t ≤ q → q ≠ 3 → r' q = σ 57 q) (h2 : r' 3 = mt_min (σ 57 3 + gainT T up) 99999) (h3 : tE (gT r' t) (liveT T up yard)) : mTr σ (mt_row σ 57 r') t T up yard := by
  refine ⟨fun c h _ => mt_row_n h, fun k _ => ?_, ?_, ?_, ?_, ?_⟩
  · rw [mt_row_n (by decide)]
  · rw [mt_row_n (by decide), hb, pu_z]
  · rw [mt_row_s]; exact h1
  · rw [mt_row_s]; exact h2
  · rw [mt_row_s]; exact h3
theorem m_waits {t : Nat} {σ : mt_St} {T : Nat → Int32} {up yard : Int32} (ht : t < 8) (hT : tE (gT (σ 57) t) T) (h4 : T 4 = 0) (hy : σ 57 4 = yard) (hg : ∃ g, g ≤ 99999 ∧ σ 57 3 = nI g) (h6 : ∃ j, j ≤ 9999 ∧ T 6 = nI j) : ∃ σ', fX6_waits 5000 σ (nI t) = some ((), σ') ∧ mTr σ σ' t T up yard := by
  have g6 : ∃ j, j ≤ 9999 ∧ gT (σ 57) t 6 = nI j := by rw [hT 6 (by decide)]; exact h6
  have ew : mt_min 9999 (gT (σ 57) t 6 + 1) = mt_min (gT (σ 57) t 6 + 1) 9999 := pu_minc g6 (by decide)
  have hgain : gainT T up = 0 := by unfold gainT; rw [if_pos h4]
  have hb : (if T 4 = 0 then (0 : Int32) else if pc (T 3 &&& up) ≤ bearsT T up then 0 else 1) = 0 := by rw [if_pos h4]
  have hlv : liveT T up yard = awaitT T yard := by unfold liveT; rw [if_pos h4]
  have hg3 : σ 57 3 = mt_min (σ 57 3 + gainT T up) 99999 := by rw [hgain, pu_g0 hg]
  have hA := tE_await hT yard
  unfold fX6_waits bX6_waits_87
  rw [m_at6, pu_ask, m_more (by omega), pu_call]
  have hr : renewsT (gT (mt_row σ 57 (upd (σ 57) (22 + 8 * t + 6) (mt_min 9999 (σ 57 (22 + 8 * t + 6) + 1))) 57) t) = renewsT (gT (σ 57) t) := by rw [mt_row_s, gT_upd]; rfl
  rw [m_renews ht, hr, pu_ask]
  by_cases c1 : renewsT (gT (σ 57) t) ≤ 0
  · rw [if_pos c1]
    refine ⟨_, rfl, mTr_row hb (fun q h1 h2 => pu_upd_n (by omega)) ((pu_upd_n (by omega)).trans hg3) ?_⟩
    rw [hlv, gT_upd]
    unfold awaitT at hA
    rw [if_pos c1] at hA
    rw [show σ 57 (22 + 8 * t + 6) = gT (σ 57) t 6 from rfl, ew]
    exact hA
  · rw [if_neg c1, m_is6 _ _ ht, pu_ask, pu_ask]
    have hw : gT (mt_row σ 57 (upd (σ 57) (22 + 8 * t + 6) (mt_min 9999 (σ 57 (22 + 8 * t + 6) + 1))) 57) t 6 = mt_min (gT (σ 57) t 6 + 1) 9999 := by
      rw [mt_row_s, gT_upd, pu_upd_s, ← ew]; rfl
    rw [hw]
    by_cases c2 : mt_min (gT (σ 57) t 6 + 1) 9999 < renewsT (gT (σ 57) t)
    · rw [if_pos c2]
      refine ⟨_, rfl, mTr_row hb (fun q h1 h2 => pu_upd_n (by omega)) ((pu_upd_n (by omega)).trans hg3) ?_⟩
      rw [hlv, gT_upd]
      unfold awaitT at hA
      rw [if_neg c1, if_pos c2] at hA
      rw [show σ 57 (22 + 8 * t + 6) = gT (σ 57) t 6 from rfl, ew]
      exact hA
    · rw [if_neg c2, m_at4, pu_ask, pu_chkP (pu_in (by omega) (by decide)), pu_bnd, m_at3, pu_ask, pu_chkP (pu_in (by omega) (by decide)), pu_bnd, m_at5, pu_ask, pu_chkP (pu_in (by omega) (by decide)), pu_bnd, pu_ask, pu_chkP (pu_in (by omega) (by decide)), pu_bnd]
      simp only [pu_up, mt_row_s, pu_row_row]
      rw [nI_clamp (by omega), nI_clamp (by omega), nI_clamp (by omega), nI_clamp (by omega)]
      refine ⟨_, rfl, mTr_row hb (fun q h1 h2 => ?_) ?_ ?_⟩
      · rw [pu_upd_n (by omega), pu_upd_n (by omega), pu_upd_n (by omega), pu_upd_n (by omega), pu_upd_n (by omega)]
      · rw [pu_upd_n (by omega), pu_upd_n (by omega), pu_upd_n (by omega), pu_upd_n (by omega), pu_upd_n (by omega)]; exact hg3
      · rw [hlv, gT_upd, gT_upd, gT_upd, gT_upd, gT_upd, pu_upd_n (by omega), pu_upd_n (by omega), hy]
        unfold awaitT at hA
        rw [if_neg c1, if_neg c2] at hA
        rw [show σ 57 (22 + 8 * t + 6) = gT (σ 57) t 6 from rfl, ew]
        exact hA
theorem m_holds {t : Nat} {σ : mt_St} {T : Nat → Int32} {up yard : Int32} (ht : t < 8) (hT : tE (gT (σ 57) t) T) (hw : wfT T) (h4 : T 4 = 1) (hu : σ 57 5 = up) (hg : ∃ g, g ≤ 99999 ∧ σ 57 3 = nI g) : ∃ σ', fX6_holds 5000 σ (nI t) = some ((), σ') ∧ mTr σ σ' t T up yard := by
  obtain ⟨h0, h1, h2, hne, h3, -, h5, h6, h7⟩ := hw
  have g3 : ps_S (gT (σ 57) t 3) := by rw [hT 3 (by decide)]; exact h3
  have g5 : ∃ j, j ≤ 9999 ∧ gT (σ 57) t 5 = nI j := by rw [hT 5 (by decide)]; exact h5
  have g7 : ∃ j, j ≤ 9999 ∧ gT (σ 57) t 7 = nI j := by rw [hT 7 (by decide)]; exact h7
  have e5 : mt_min 9999 (gT (σ 57) t 5 + 1) = mt_min (gT (σ 57) t 5 + 1) 9999 := pu_minc g5 (by decide)
  have e7 : mt_min 9999 (gT (σ 57) t 7 + 1) = mt_min (gT (σ 57) t 7 + 1) 9999 := pu_minc g7 (by decide)
  have n4 : ¬ T 4 = 0 := by rw [h4]; decide
  have f4 : ¬ gT (σ 57) t 4 = 0 := by rw [hT 4 (by decide)]; exact n4
  have hL := tE_live hT up yard
  have hG := tE_gain hT up
  have ec : (pc (gT (σ 57) t 3 &&& up) ≤ bearsT (gT (σ 57) t) up) = (pc (T 3 &&& up) ≤ bearsT T up) := by rw [hT 3 (by decide), tE_bears hT]
  unfold fX6_holds bX6_holds_127
  rw [m_upIn ht g3, pu_ask, m_bears ht g3, pu_ask, hu]
  by_cases c1 : pc (gT (σ 57) t 3 &&& up) ≤ bearsT (gT (σ 57) t) up
  · have c1T : pc (T 3 &&& up) ≤ bearsT T up := by rw [← ec]; exact c1
    have hb : (if T 4 = 0 then (0 : Int32) else if pc (T 3 &&& up) ≤ bearsT T up then 0 else 1) = 0 := by rw [if_neg n4, if_pos c1T]
    have hLl : liveT (gT (σ 57) t) up yard = fadeT (upd (gT (σ 57) t) 5 (mt_min (gT (σ 57) t 5 + 1) 9999)) := by unfold liveT; rw [if_neg f4, if_pos c1]
    rw [hLl] at hL
    have hgy : yieldsT (gT (σ 57) t) = gainT T up := by
      rw [← hG]; unfold gainT; rw [if_neg f4, if_pos c1]
    obtain ⟨g, hg9, eg⟩ := hg
    obtain ⟨q, hq, eq⟩ := wfT_gain (T := T) h3 up
    have hgold : mt_min 99999 (σ 57 3 + gainT T up) = mt_min (σ 57 3 + gainT T up) 99999 := by
      rw [eg, eq, nI_add, show (99999 : Int32) = nI 99999 from rfl, pu_min (g + q) 99999 (by omega) (by decide), pu_min' (g + q) 99999 (by omega) (by decide)]
    rw [if_pos c1, m_yields ht g3, pu_ask, hgy, show (3 : Int32) = nI 3 from rfl, m_more (by omega), pu_call, m_at5, pu_ask, m_more (by omega), pu_call]
    rw [pu_row_row, mt_row_s, hgold]
    generalize hR : upd (upd (σ 57) 3 (mt_min (σ 57 3 + gainT T up) 99999)) (22 + 8 * t + 5) (mt_min 9999 (upd (σ 57) 3 (mt_min (σ 57 3 + gainT T up) 99999) (22 + 8 * t + 5) + 1)) = R
    have hgR : gT R t = upd (gT (σ 57) t) 5 (mt_min (gT (σ 57) t 5 + 1) 9999) := by
      rw [← hR, gT_upd, pu_upd_n (by omega), show σ 57 (22 + 8 * t + 5) = gT (σ 57) t 5 from rfl, e5]
      congr 1
      funext k
      unfold gT
      exact pu_upd_n (by omega)
    have hoR : ∀ q, q < 22 + 8 * t ∨ 30 + 8 * t ≤ q → q ≠ 3 → R q = σ 57 q := fun q a1 a2 => by
      rw [← hR, pu_upd_n (by omega), pu_upd_n (by omega)]
    have h3R : R 3 = mt_min (σ 57 3 + gainT T up) 99999 := by rw [← hR, pu_upd_n (by omega), pu_upd_s]
    rw [m_fades ht, mt_row_s, pu_ask]
    have hfR : fadesT (gT R t) = fadesT (gT (σ 57) t) := by rw [hgR]; rfl
    by_cases c2 : fadesT (gT R t) ≤ 0
    · rw [if_pos c2]
      refine ⟨_, rfl, mTr_row hb hoR h3R ?_⟩
      unfold fadeT at hL
      rw [hgR]
      rw [hfR] at c2
      rw [if_pos (show fadesT (upd (gT (σ 57) t) 5 (mt_min (gT (σ 57) t 5 + 1) 9999)) ≤ 0 from c2)] at hL
      exact hL
    · have hz : (!decide (fadesT (gT R t) = 0)) = true := by
        have : ¬ fadesT (gT R t) = 0 := fun q => c2 (by rw [q]; decide)
        simp [this]
      rw [if_neg c2, m_is5 _ _ ht, mt_row_s, pu_ask, pu_ask, pu_chkP hz]
      have hF : fadeT (gT R t) = if gT R t 5 - gT R t 5 / fadesT (gT R t) * fadesT (gT R t) = 0 then upd (gT R t) 3 (gT R t 3 &&& (hob (gT R t 3) ^^^ (-1))) else gT R t := by
        unfold fadeT; rw [if_neg c2]
      rw [← hgR] at hL
      rw [hF] at hL
      by_cases c3 : gT R t 5 - gT R t 5 / fadesT (gT R t) * fadesT (gT R t) = 0
      · rw [if_pos c3] at hL
        have g3R : ps_S (gT R t 3) := by rw [hgR]; exact g3
        rw [if_pos c3, m_fadesNow ht (by rw [mt_row_s]; exact g3R), pu_call, pu_row_row, mt_row_s]
        refine ⟨_, rfl, mTr_row hb (fun q a1 a2 => by rw [pu_upd_n (by omega)]; exact hoR q a1 a2) (by rw [pu_upd_n (by omega)]; exact h3R) ?_⟩
        rw [gT_upd]
        exact hL
      · rw [if_neg c3] at hL
        rw [if_neg c3]
        exact ⟨_, rfl, mTr_row hb hoR h3R hL⟩
  · have c1T : ¬ pc (T 3 &&& up) ≤ bearsT T up := by rw [← ec]; exact c1
    have hLl : liveT (gT (σ 57) t) up yard = upd (upd (upd (upd (gT (σ 57) t) 4 0) 7 (mt_min (gT (σ 57) t 7 + 1) 9999)) 5 0) 6 0 := by unfold liveT; rw [if_neg f4, if_neg c1]
    rw [hLl] at hL
    have hgain : gainT T up = 0 := by unfold gainT; rw [if_neg n4, if_neg c1T]
    rw [if_neg c1, m_at4, pu_ask, pu_chkP (pu_in (by omega) (by decide)), pu_bnd, m_at5, pu_ask, pu_chkP (pu_in (by omega) (by decide)), pu_bnd, m_at6, pu_ask, pu_chkP (pu_in (by omega) (by decide)), pu_bnd, m_at7, pu_ask, m_more (by omega), pu_call, pu_bnd]
    simp only [pu_up, mt_row_s, pu_row_row]
    rw [nI_clamp (by omega), nI_clamp (by omega), nI_clamp (by omega)]
    refine ⟨_, rfl, ?_⟩
    generalize hR : upd (upd (upd (upd (σ 57) (22 + 8 * t + 4) 0) (22 + 8 * t + 5) 0) (22 + 8 * t + 6) 0) (22 + 8 * t + 7) (mt_min 9999 (upd (upd (upd (σ 57) (22 + 8 * t + 4) 0) (22 + 8 * t + 5) 0) (22 + 8 * t + 6) 0 (22 + 8 * t + 7) + 1)) = R
    have hgR : gT R t = upd (upd (upd (upd (gT (σ 57) t) 4 0) 5 0) 6 0) 7 (mt_min (gT (σ 57) t 7 + 1) 9999) := by
      rw [← hR, gT_upd, gT_upd, gT_upd, gT_upd, pu_upd_n (by omega), pu_upd_n (by omega), pu_upd_n (by omega), show σ 57 (22 + 8 * t + 7) = gT (σ 57) t 7 from rfl, e7]
    have h56 : mt_row σ 57 R 56 = σ 56 := mt_row_n (by decide)
    refine ⟨fun c a1 a2 => ?_, fun k hk => ?_, ?_, ?_, ?_, ?_⟩
    · rw [mt_row_n a2, mt_row_n a1]
    · rw [mt_row_s, h56, pu_upd_n hk]
    · rw [mt_row_s, h56, pu_upd_s, if_neg n4, if_neg c1T]
    · intro q a1 a2
      rw [mt_row_n (by decide), mt_row_s, ← hR, pu_upd_n (by omega), pu_upd_n (by omega), pu_upd_n (by omega), pu_upd_n (by omega)]
    · rw [mt_row_n (by decide), mt_row_s, hgain, pu_g0 hg, ← hR, pu_upd_n (by omega), pu_upd_n (by omega), pu_upd_n (by omega), pu_upd_n (by omega)]
    · rw [mt_row_n (by decide), mt_row_s, hgR]
      intro k hk
      rw [← hL k hk]
      rcases (show k = 0 ∨ k = 1 ∨ k = 2 ∨ k = 3 ∨ k = 4 ∨ k = 5 ∨ k = 6 ∨ k = 7 by omega) with rfl | rfl | rfl | rfl | rfl | rfl | rfl | rfl <;> rfl
