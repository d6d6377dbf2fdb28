/-! a world is copied -/
theorem x_bec3 {fu c d : Nat} {σ : mt_St} (hne : d ≠ c) : ∃ f, fX3_become fu σ c d = some ((), mt_row σ c f) ∧ tE f (σ d) := by
  unfold fX3_become
  simp only [pu_bnd, pu_up, mt_row_s, pu_row_row, mt_row_n hne]
  exact ⟨_, rfl, tE_cases rfl rfl rfl rfl rfl rfl rfl rfl⟩
theorem x_becLoop {fu w s : Nat} {a : AW} (hws : w + 12 ≤ s ∨ s + 12 ≤ w) (hn8 : nA a ≤ 8) (h7 : a 0 7 = nI (nA a)) : ∀ (d j fuel : Nat) (σ : mt_St), nA a = j + d → d < fuel → SX a σ s → (σ w 0 = a 0 0 ∧ σ w 1 = a 0 1 ∧ σ w 3 = a 0 3 ∧ σ w 4 = a 0 4 ∧ σ w 5 = a 0 5 ∧ σ w 7 = a 0 7) → (∀ i, i < 6 → σ (w + 1) i = a 1 i) → (∀ t, t < j → tE (σ (w + 4 + t)) (a (4 + t))) → ∃ σ', bX4_become_65 fu w s fuel σ (nI j) = some ((), σ') ∧ SX a σ' w ∧ frW w σ σ' := by
  intro d
  induction d with
  | zero =>
    intro j fuel σ hd hf hs h0 h1 ht
    obtain ⟨fuel, rfl⟩ : ∃ q, fuel = q + 1 := ⟨fuel - 1, by omega⟩
    have : j = nA a := by omega
    subst this
    unfold bX4_become_65 bX4_become_100
    rw [h0.2.2.2.2.2, h7, if_pos (nI_le (Nat.le_refl _) (by omega)), pu_chkP (by decide), pu_bnd]
    refine ⟨_, rfl, ⟨?_, fun i hi => ?_, fun i hi => ?_, fun t htn => ?_⟩, frW.row (by omega) (by omega)⟩
    · rw [mt_row_n (by omega)]; exact h0
    · rw [mt_row_n (by omega)]; exact h1 i hi
    · rw [mt_row_s]
      show (if 0 ≤ i ∧ i < 0 + 10 then σ (s + 3) (0 + (i - 0)) else σ (w + 3) i) = a 3 i
      rw [if_pos (by omega), show 0 + (i - 0) = i by omega]
      exact hs.2.2.1 i hi
    · rw [mt_row_n (by omega)]; exact ht t htn
  | succ d ih =>
    intro j fuel σ hd hf hs h0 h1 ht
    obtain ⟨fuel, rfl⟩ : ∃ q, fuel = q + 1 := ⟨fuel - 1, by omega⟩
    obtain ⟨f, e1, e2⟩ := x_bec3 (fu := fu) (c := w + 4 + j) (d := s + 4 + j) (σ := σ) (by omega)
    unfold bX4_become_65
    rw [h0.2.2.2.2.2, h7, if_neg (nI_ge (by omega) (by omega)), if_neg (show ¬ (8 : Int32) ≤ nI j from nI_ge (b := 8) (by omega) (by decide)), pu_chkP (pu_in (by omega) (by decide)), pu_chkP (pu_in (by omega) (by decide)), nI_clamp (by omega), show w + 2 + 2 + j = w + 4 + j by omega, show s + 2 + 2 + j = s + 4 + j by omega, e1, pu_call, nI_1]
    obtain ⟨σ', g1, g2, g3⟩ := ih (j + 1) fuel (mt_row σ (w + 4 + j) f) (by omega) (by omega) (hs.same hn8 (fun c p q => mt_row_n (by omega))) (by rw [mt_row_n (by omega)]; exact h0) (fun i hi => by rw [mt_row_n (by omega)]; exact h1 i hi) (fun t htj => by
      by_cases q : t = j
      · subst q; rw [mt_row_s]; exact fun k hk => (e2 k hk).trans (hs.2.2.2 t (by omega) k hk)
      · rw [mt_row_n (by omega)]; exact ht t (by omega))
    exact ⟨σ', g1, g2, (frW.row (by omega) (by omega)).tr g3⟩
theorem x_become {fu w s y : Nat} {a : AW} {σ : mt_St} (hfu : 10 < fu) (hws : w + 12 ≤ s ∨ s + 12 ≤ w) (hw : wfA a y) (h : SX a σ s) : ∃ σ', fX4_become fu σ w s = some ((), σ') ∧ SX a σ' w ∧ frW w σ σ' := by
  obtain ⟨hn8, h7⟩ := hw.n
  unfold fX4_become
  have n1 : s ≠ w := by omega
  have n2 : s ≠ w + 1 := by omega
  have n3 : s + 1 ≠ w := by omega
  have n4 : w ≠ w + 1 := by omega
  have n5 : w + 1 ≠ w := by omega
  simp only [pu_bnd, pu_up, mt_row_n n1, mt_row_n n2, mt_row_n n3, mt_row_n n4, mt_row_n n5, mt_row_s, pu_row_row]
  rw [pu_chkP (by decide)]
  obtain ⟨⟨e0, e1, e3, e4, e5, e7⟩, hl, hs, ht⟩ := id h
  obtain ⟨σ', g1, g2, g3⟩ := x_becLoop (fu := fu) hws hn8 h7 (nA a) 0 fu (mt_row (mt_row (mt_row σ w (upd (upd (σ w) 0 (σ s 0)) 1 (σ s 1))) (w + 1) (va_cpy (σ (s + 1)) (σ (w + 1)) 0 0 6)) w (upd (upd (upd (upd (upd (upd (σ w) 0 (σ s 0)) 1 (σ s 1)) 3 (σ s 3)) 4 (σ s 4)) 5 (σ s 5)) 7 (σ s 7))) (by omega) (by omega) (h.same hn8 (fun c p q => by rw [mt_row_n (by omega), mt_row_n (by omega), mt_row_n (by omega)])) (by rw [mt_row_s]; exact ⟨e0, e1, e3, e4, e5, e7⟩) (fun i hi => by
      rw [mt_row_n (by omega), mt_row_s]
      show (if 0 ≤ i ∧ i < 0 + 6 then σ (s + 1) (0 + (i - 0)) else σ (w + 1) i) = a 1 i
      rw [if_pos (by omega), show 0 + (i - 0) = i by omega]
      exact hl i hi) (fun t ht => absurd ht (by omega))
  exact ⟨σ', g1, g2, (((frW.row (by omega) (by omega)).tr (frW.row (by omega) (by omega))).tr (frW.row (by omega) (by omega))).tr g3⟩
