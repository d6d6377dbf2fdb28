theorem mt_row_same (σ : mt_St) (c : Nat) : mt_row σ c (σ c) = σ := by
  funext c'; unfold mt_row; split <;> simp_all
/-! one treaty changes -/
theorem wfA.n8 {a : AW} {y : Nat} (h : wfA a y) : nA a ≤ 8 := h.n.1
theorem wfA.treat {a : AW} {y t : Nat} {T : Nat → Int32} (h : wfA a y) (ht : t < nA a) (hT : wfT T) : wfA (mt_row a (4 + t) T) y := by
  obtain ⟨w1, w2, w3, w4, w5, w6, w7, w8⟩ := h
  have a0 : mt_row a (4 + t) T 0 = a 0 := mt_row_n (by omega)
  have a1 : mt_row a (4 + t) T 1 = a 1 := mt_row_n (by omega)
  have a3 : mt_row a (4 + t) T 3 = a 3 := mt_row_n (by omega)
  have hn : nA (mt_row a (4 + t) T) = nA a := by unfold nA; rw [a0]
  unfold wfA
  rw [hn, a0, a1, a3]
  refine ⟨w1, w2, w3, w4, w5, w6, w7, fun s hs => ?_⟩
  by_cases e : s = t
  · subst e; rw [mt_row_s]; exact hT
  · rw [mt_row_n (by omega)]; exact w8 s hs
theorem SX.treat {a : AW} {σ : mt_St} {w t : Nat} {T f : Nat → Int32} (h : SX a σ w) (ht : t < nA a) (hT : tE f T) : SX (mt_row a (4 + t) T) (mt_row σ (w + 4 + t) f) w := by
  obtain ⟨e0, hl, hs, htt⟩ := h
  have a0 : mt_row a (4 + t) T 0 = a 0 := mt_row_n (by omega)
  have a1 : mt_row a (4 + t) T 1 = a 1 := mt_row_n (by omega)
  have a3 : mt_row a (4 + t) T 3 = a 3 := mt_row_n (by omega)
  have hn : nA (mt_row a (4 + t) T) = nA a := by unfold nA; rw [a0]
  unfold SX
  rw [hn, a0, a1, a3, mt_row_n (show w ≠ w + 4 + t by omega), mt_row_n (show w + 1 ≠ w + 4 + t by omega), mt_row_n (show w + 3 ≠ w + 4 + t by omega)]
  refine ⟨e0, hl, hs, fun s hs => ?_⟩
  by_cases e : s = t
  · subst e; rw [mt_row_s, mt_row_s]; exact hT
  · rw [mt_row_n (by omega), mt_row_n (by omega)]; exact htt s hs
theorem SM.treat {a : AW} {r r' : Nat → Int32} {t : Nat} {T : Nat → Int32} (h : SM a r) (ht : t < nA a) (h1 : ∀ q, q < 22 + 8 * t ∨ 30 + 8 * t ≤ q → r' q = r q) (hT : tE (fun k => r' (22 + 8 * t + k)) T) : SM (mt_row a (4 + t) T) r' := by
  obtain ⟨e0, hl, hs, htt⟩ := h
  have a0 : mt_row a (4 + t) T 0 = a 0 := mt_row_n (by omega)
  have a1 : mt_row a (4 + t) T 1 = a 1 := mt_row_n (by omega)
  have a3 : mt_row a (4 + t) T 3 = a 3 := mt_row_n (by omega)
  have hn : nA (mt_row a (4 + t) T) = nA a := by unfold nA; rw [a0]
  unfold SM
  rw [hn, a0, a1, a3, h1 4 (by omega), h1 5 (by omega), h1 3 (by omega), h1 0 (by omega), h1 2 (by omega), h1 1 (by omega)]
  refine ⟨e0, fun i hi => by rw [h1 _ (by omega)]; exact hl i hi, fun i hi => by rw [h1 _ (by omega)]; exact hs i hi, fun s hs => ?_⟩
  by_cases e : s = t
  · subst e; rw [mt_row_s]; exact hT
  · rw [mt_row_n (by omega)]
    intro k hk
    rw [← htt s hs k hk]
    exact h1 _ (by omega)
theorem RA.field {σ : mt_St} {y t k : Nat} {a : AW} {v : Int32} (h : RA σ y a) (ht : t < nA a) (hk : k < 8) (hT : wfT (upd (a (4 + t)) k v)) : RA (mt_row (mt_row σ (1 + 4 + t) (upd (σ (1 + 4 + t)) k v)) 57 (upd (σ 57) (22 + 8 * t + k) v)) y (mt_row a (4 + t) (upd (a (4 + t)) k v)) := by
  have hn8 := h.1.n8
  refine ⟨h.1.treat ht hT, ?_, ?_⟩
  · have := h.2.1.treat (f := upd (σ (1 + 4 + t)) k v) (T := upd (a (4 + t)) k v) ht (tE_upd (h.2.1.2.2.2 t ht) k v)
    refine this.same (by unfold nA at *; rw [mt_row_n (by omega)]; exact hn8) (fun c p q => mt_row_n (by omega))
  · rw [mt_row_s]
    refine h.2.2.treat ht (fun q hq => pu_upd_n (by omega)) (fun j hj => ?_)
    show upd (σ 57) (22 + 8 * t + k) v (22 + 8 * t + j) = upd (a (4 + t)) k v j
    by_cases e : j = k
    · subst e; rw [pu_upd_s, pu_upd_s]
    · rw [pu_upd_n (by omega), pu_upd_n e]; exact h.2.2.2.2.2 t ht j hj
/-! treaties are named alike -/
theorem RA.isT {σ : mt_St} {y : Nat} {a : AW} (h : RA σ y a) : σ 1 7 = nI (nA a) ∧ σ 57 1 = nI (nA a) := ⟨h.2.1.1.2.2.2.2.2.trans h.1.n.2, h.2.2.1.2.2.2.2.2.trans h.1.n.2⟩
theorem RA.mT {σ : mt_St} {y t : Nat} {a : AW} (h : RA σ y a) (ht : t < nA a) : tE (gT (σ 57) t) (a (4 + t)) := h.2.2.2.2.2 t ht
theorem RA.xT {σ : mt_St} {y t : Nat} {a : AW} (h : RA σ y a) (ht : t < nA a) : tE (σ (1 + 4 + t)) (a (4 + t)) := h.2.1.2.2.2 t ht
theorem RA.wT {σ : mt_St} {y t : Nat} {a : AW} (h : RA σ y a) (ht : t < nA a) : wfT (a (4 + t)) := h.1.2.2.2.2.2.2.2 t ht
theorem RA.p3 {σ : mt_St} {y t : Nat} {a : AW} (h : RA σ y a) (ht : t < nA a) : ps_S (gT (σ 57) t 3) := by rw [h.mT ht 3 (by decide)]; exact (h.wT ht).2.2.2.2.1
theorem okT {v : Int32} {n : Nat} (hn : n ≤ 8) (h : okR v (nI n - 1) = true) : ∃ t, t < n ∧ v = nI t := okR_T hn h
theorem x_tell {fu c : Nat} {σ : mt_St} {k : Nat} {up : Int32} (hk : k < 8) : fX3_tell fu σ c (nI k) up = some (σ c k) := by
  unfold fX3_tell
  rcases (show k = 0 ∨ k = 1 ∨ k = 2 ∨ k = 3 ∨ k = 4 ∨ k = 5 ∨ k = 6 ∨ k = 7 by omega) with rfl | rfl | rfl | rfl | rfl | rfl | rfl | rfl <;> rfl
theorem m_isN (fu : Nat) {t k : Nat} (σ : mt_St) (ht : t < 8) (hk : k < 8) : fX6_treatyIs fu σ (nI t) (nI k) = some (gT (σ 57) t k) := by
  rcases (show k = 0 ∨ k = 1 ∨ k = 2 ∨ k = 3 ∨ k = 4 ∨ k = 5 ∨ k = 6 ∨ k = 7 by omega) with rfl | rfl | rfl | rfl | rfl | rfl | rfl | rfl
  · exact m_is0 fu σ ht
  · exact m_is1 fu σ ht
  · exact m_is2 fu σ ht
  · exact m_is3 fu σ ht
  · exact m_is4 fu σ ht
  · exact m_is5 fu σ ht
  · exact m_is6 fu σ ht
  · exact m_is7 fu σ ht
theorem m_told {fu : Nat} {σ : mt_St} {t k : Nat} (ht : t < 8) (hk : k < 8) : fX6_told fu σ (nI t) (nI k) = some (gT (σ 57) t k) := by
  unfold fX6_told
  rw [m_isN fu σ ht hk, pu_ask]
  rcases (show k = 0 ∨ k = 1 ∨ k = 2 ∨ k = 3 ∨ k = 4 ∨ k = 5 ∨ k = 6 ∨ k = 7 by omega) with rfl | rfl | rfl | rfl | rfl | rfl | rfl | rfl <;> rfl
/-- what is told of a treaty, by number -/
def tellT (T : Nat → Int32) (up : Int32) (k : Nat) : Int32 := if k < 8 then T k else if k = 8 then bearsT T up else if k = 9 then fadesT T else if k = 10 then yieldsT T else if k = 11 then renewsT T else pc (T 3 &&& up)
theorem x_tell12 {fu c : Nat} {σ : mt_St} {k : Nat} {up : Int32} (hk : k ≤ 12) : fX3_tell fu σ c (nI k) up = some (tellT (σ c) up k) := by
  by_cases h8 : k < 8
  · rw [x_tell h8]; unfold tellT; rw [if_pos h8]
  · unfold fX3_tell
    rw [x_bears, x_fades, x_yields, x_renews, pc_x]
    rcases (show k = 8 ∨ k = 9 ∨ k = 10 ∨ k = 11 ∨ k = 12 by omega) with rfl | rfl | rfl | rfl | rfl <;> rfl
theorem m_told12 {σ : mt_St} {t k : Nat} (ht : t < 8) (hk : k ≤ 12) (h3 : ps_S (gT (σ 57) t 3)) : fX6_told 5000 σ (nI t) (nI k) = some (tellT (gT (σ 57) t) (σ 57 5) k) := by
  by_cases h8 : k < 8
  · rw [m_told ht h8]; unfold tellT; rw [if_pos h8]
  · unfold fX6_told
    rw [m_bears ht h3, m_fades ht, m_yields ht h3, m_renews ht, m_upIn ht h3]
    rcases (show k = 8 ∨ k = 9 ∨ k = 10 ∨ k = 11 ∨ k = 12 by omega) with rfl | rfl | rfl | rfl | rfl <;> rfl
theorem tE_tell {f T : Nat → Int32} (h : tE f T) (up : Int32) {k : Nat} : tellT f up k = tellT T up k := by
  unfold tellT
  rw [tE_bears h]
  have h0 := h 0 (by decide); have h3 := h 3 (by decide)
  unfold fadesT yieldsT renewsT
  rw [h0, h3]
  by_cases hk : k < 8
  · rw [if_pos hk, if_pos hk, h k hk]
  · rw [if_neg hk, if_neg hk]
theorem e_of {σ : mt_St} {y : Nat} (h : RR σ y) (u v : Int32) : EV (fun s => fX5_of 5000 s u v) (fun s => fX6_of 5000 s u v) σ y := by
  obtain ⟨⟨a, ha⟩, -⟩ := id h
  obtain ⟨i7, i1⟩ := ha.isT
  cases h1 : okR u (nI (nA a) - 1)
  · refine EV.find (w := 0) (by decide) h ?_ ?_
    · simp only [fX5_of, bX5_of_17, x_isTreaty, i7, h1, x_find0, pu_ask, pu_call, pu_bnd, pu_chk, pu_b0, pu_b1, bN_t, bN_f, bN_c, i10, i00, if_true, if_false]
    · simp only [fX6_of, bX6_of_27, bX6_of_33, m_isTreaty, x_fs_n (show 57 ≠ 55 by decide), i1, h1, m_find0, pu_ask, pu_call, pu_bnd, pu_chk, pu_b0, pu_b1, bN_t, bN_f, bN_c, i10, i00, if_true, if_false]
  cases h2 : okR v 12
  · refine EV.find (w := 0) (by decide) h ?_ ?_
    · simp only [fX5_of, bX5_of_17, x_isTreaty, x_win, i7, h1, h2, x_find0, pu_ask, pu_call, pu_bnd, pu_chk, pu_b0, pu_b1, bN_t, bN_f, bN_c, i10, i00, if_true, if_false]
    · simp only [fX6_of, bX6_of_27, bX6_of_33, m_isTreaty, m_win, x_fs_n (show 57 ≠ 55 by decide), i1, h1, h2, m_find0, pu_ask, pu_call, pu_bnd, pu_chk, pu_b0, pu_b1, bN_t, bN_f, bN_c, i10, i00, if_true, if_false]
  obtain ⟨t, ht, rfl⟩ := okT ha.1.n8 h1
  obtain ⟨k, hk, rfl⟩ := okR_nI (m := 12) (by decide) h2
  have hn8 := ha.1.n8
  have h3 := ha.p3 ht
  refine EV.same (r := tellT (a (4 + t)) (a 0 1) k) h ?_ ?_
  · simp only [fX5_of, bX5_of_17, x_isTreaty, x_win, i7, h1, h2, pu_in (show t < 8 by omega) (by decide), nI_clamp (show t < 2 ^ 31 by omega), x_tell12 hk, pu_ask, pu_call, pu_bnd, pu_chk, pu_b0, pu_b1, bN_t, bN_f, bN_c, i10, i00, if_true, if_false]
    rw [show 1 + 2 + 2 + t = 1 + 4 + t by omega, tE_tell (ha.2.1.2.2.2 t ht), ha.2.1.1.2.1]
  · simp only [fX6_of, bX6_of_27, bX6_of_33, m_isTreaty, m_win, i1, h1, h2, m_told12 (show t < 8 by omega) hk h3, pu_ask, pu_call, pu_bnd, pu_chk, pu_b0, pu_b1, bN_t, bN_f, bN_c, i10, i00, if_true, if_false]
    rw [tE_tell (ha.mT ht), ha.2.2.1.2.1]
/-! changing a treaty's field -/
def takesT (T : Nat → Int32) (k : Nat) (v : Int32) : Bool := if k = 0 then okR v 6 else if k = 1 then okR v 5 && !decide (v = T 2) else if k = 2 then okR v 5 && !decide (v = T 1) else if k = 3 then okR v 4095 else if k = 4 then okR v 1 else okR v 9999
theorem x_pair (fu : Nat) (u v : Int32) : fX5_isPair fu u v = some (bN (okR u 5 && okR v 5 && !decide (u = v))) := by
  unfold fX5_isPair bX5_isPair_25 bX5_isPair_26
  rw [x_win, pu_ask, x_win, pu_ask]
  cases okR u 5
  · rfl
  · cases okR v 5
    · rfl
    · by_cases e : u = v
      · simp only [e, pu_ask, pu_call, pu_bnd, pu_chk, pu_b0, pu_b1, bN_t, bN_f, bN_c, i10, i00, if_true, if_false]; simp [bN]
      · simp only [e, pu_ask, pu_call, pu_bnd, pu_chk, pu_b0, pu_b1, bN_t, bN_f, bN_c, i10, i00, if_true, if_false]; simp [bN]
theorem x_takes {fu c : Nat} {σ : mt_St} {k : Nat} {v : Int32} (hk : k < 8) (h1 : okR (σ c 1) 5 = true) (h2 : okR (σ c 2) 5 = true) : fX3_takes fu σ c (nI k) v = some (bN (takesT (σ c) k v)) := by
  unfold fX3_takes
  simp only [x_win, x_pair, pu_ask, pu_call, pu_bnd, pu_chk, pu_b0, pu_b1, bN_t, bN_f, bN_c, i10, i00, if_true, if_false]
  rcases (show k = 0 ∨ k = 1 ∨ k = 2 ∨ k = 3 ∨ k = 4 ∨ k = 5 ∨ k = 6 ∨ k = 7 by omega) with rfl | rfl | rfl | rfl | rfl | rfl | rfl | rfl
  · rfl
  · rw [if_neg (by decide), if_pos (by decide), h2, Bool.and_true]; rfl
  · rw [if_neg (by decide), if_neg (by decide), if_pos (by decide), h1, Bool.true_and]
    unfold takesT
    rw [if_neg (by decide), if_neg (by decide), if_pos rfl, show decide (σ c 1 = v) = decide (v = σ c 1) from by by_cases e : v = σ c 1 <;> simp [e, eq_comm]]
  · rfl
  · rfl
  · rfl
  · rfl
  · rfl
theorem m_53 {fu t k : Nat} {σ : mt_St} {v : Int32} (ht : t < 8) (hk : k = 1 ∨ k = 2) : bX6_isField_53 fu σ (nI t) (nI k) v = some (bN (okR v 5 && !decide (v = gT (σ 57) t (3 - k)))) := by
  unfold bX6_isField_53 bX6_isField_76 bX6_isField_77
  have e3 : (3 : Int32) - nI k = nI (3 - k) := by rcases hk with rfl | rfl <;> decide
  rw [m_isPower, pu_ask, e3, m_isN fu σ ht (by omega), pu_ask]
  cases okR v 5
  · rfl
  · by_cases e : v = gT (σ 57) t (3 - k)
    · simp only [e, pu_ask, pu_call, pu_bnd, pu_chk, pu_b0, pu_b1, bN_t, bN_f, bN_c, i10, i00, if_true, if_false]; simp [bN]
    · simp only [e, pu_ask, pu_call, pu_bnd, pu_chk, pu_b0, pu_b1, bN_t, bN_f, bN_c, i10, i00, if_true, if_false]; simp [bN]
theorem m_isField {fu t k : Nat} {σ : mt_St} {v : Int32} (ht : t < 8) (hk : k < 8) : fX6_isField fu σ (nI t) (nI k) v = some (bN (takesT (gT (σ 57) t) k v)) := by
  unfold fX6_isField bX6_isField_90
  simp only [m_isKind, m_isFigures, m_win, pu_ask, pu_call, pu_bnd, pu_chk, pu_b0, pu_b1, bN_t, bN_f, bN_c, i10, i00, if_true, if_false]
  rcases (show k = 0 ∨ k = 1 ∨ k = 2 ∨ k = 3 ∨ k = 4 ∨ k = 5 ∨ k = 6 ∨ k = 7 by omega) with rfl | rfl | rfl | rfl | rfl | rfl | rfl | rfl
  · rfl
  · rw [if_neg (by decide), if_pos (by decide), m_53 ht (Or.inl rfl)]; rfl
  · rw [if_neg (by decide), if_neg (by decide), if_pos (by decide), m_53 ht (Or.inr rfl)]; rfl
  · rfl
  · rfl
  · rfl
  · rfl
  · rfl
theorem tE_takes {f T : Nat → Int32} (h : tE f T) {k : Nat} {v : Int32} : takesT f k v = takesT T k v := by
  unfold takesT
  rw [h 1 (by decide), h 2 (by decide)]
theorem x_alter {fu c : Nat} {σ : mt_St} {k : Nat} {v : Int32} (hk : k < 8) : fX3_alter fu σ c (nI k) v = some ((), mt_row σ c (upd (σ c) k v)) := by
  unfold fX3_alter bX3_alter_105
  rcases (show k = 0 ∨ k = 1 ∨ k = 2 ∨ k = 3 ∨ k = 4 ∨ k = 5 ∨ k = 6 ∨ k = 7 by omega) with rfl | rfl | rfl | rfl | rfl | rfl | rfl | rfl <;> rfl
theorem ok9999 {v : Int32} (h : okR v 9999 = true) : ∃ j, j ≤ 9999 ∧ v = nI j := by
  rw [show (9999 : Int32) = nI 9999 by decide] at h
  exact okR_nI (by decide) h
theorem wfT.takes {T : Nat → Int32} {k : Nat} {v : Int32} (h : wfT T) (hk : k < 8) (hv : takesT T k v = true) : wfT (upd T k v) := by
  obtain ⟨h0, h1, h2, hne, h3, h4, h5, h6, h7⟩ := h
  unfold takesT at hv
  rcases (show k = 0 ∨ k = 1 ∨ k = 2 ∨ k = 3 ∨ k = 4 ∨ k = 5 ∨ k = 6 ∨ k = 7 by omega) with rfl | rfl | rfl | rfl | rfl | rfl | rfl | rfl
  · exact ⟨okR_nI (m := 6) (by decide) hv, h1, h2, hne, h3, h4, h5, h6, h7⟩
  · rw [if_neg (by decide), if_pos rfl, Bool.and_eq_true] at hv
    obtain ⟨p, q⟩ := hv
    exact ⟨h0, okR_nI (m := 5) (by decide) p, h2, by show v ≠ T 2; intro e; simp [e] at q, h3, h4, h5, h6, h7⟩
  · rw [if_neg (by decide), if_neg (by decide), if_pos rfl, Bool.and_eq_true] at hv
    obtain ⟨p, q⟩ := hv
    exact ⟨h0, h1, okR_nI (m := 5) (by decide) p, by show T 1 ≠ v; intro e; simp [e] at q, h3, h4, h5, h6, h7⟩
  · exact ⟨h0, h1, h2, hne, ok4095 hv, h4, h5, h6, h7⟩
  · obtain ⟨j, hj, e⟩ := okR_nI (m := 1) (by decide) hv
    refine ⟨h0, h1, h2, hne, h3, ?_, h5, h6, h7⟩
    rcases (show j = 0 ∨ j = 1 by omega) with rfl | rfl
    · exact Or.inl e
    · exact Or.inr e
  · exact ⟨h0, h1, h2, hne, h3, h4, ok9999 hv, h6, h7⟩
  · exact ⟨h0, h1, h2, hne, h3, h4, h5, ok9999 hv, h7⟩
  · exact ⟨h0, h1, h2, hne, h3, h4, h5, h6, ok9999 hv⟩
theorem RA.ok12 {σ : mt_St} {y t : Nat} {a : AW} (h : RA σ y a) (ht : t < nA a) : okR (σ (1 + 4 + t) 1) 5 = true ∧ okR (σ (1 + 4 + t) 2) 5 = true := by
  obtain ⟨-, ⟨j, hj, ej⟩, ⟨k, hk, ek⟩, -⟩ := h.wT ht
  rw [h.xT ht 1 (by decide), h.xT ht 2 (by decide), ej, ek]
  exact ⟨okR_of (m := 5) hj (by decide), okR_of (m := 5) hk (by decide)⟩
theorem m_isField0 {fu t : Nat} {σ : mt_St} {u v : Int32} (ht : t < 8) (hu : okR u 7 = false) : fX6_isField fu σ (nI t) u v = some 0 := by
  have hn : ∀ k, k < 8 → ¬ u = nI k := fun k hk e => by
    rw [e, show okR (nI k) 7 = true from okR_of (m := 7) (by omega) (by decide)] at hu
    cases hu
  unfold fX6_isField
  rw [if_neg (show ¬ u = 0 from hn 0 (by decide)), if_neg (show ¬ u = 1 from hn 1 (by decide)), if_neg (show ¬ u = 2 from hn 2 (by decide)), if_neg (show ¬ u = 3 from hn 3 (by decide)), if_neg (show ¬ u = 4 from hn 4 (by decide)), if_neg (show ¬ u = 5 from hn 5 (by decide)), if_neg (show ¬ u = 6 from hn 6 (by decide)), if_neg (show ¬ u = 7 from hn 7 (by decide))]
theorem e_change {σ : mt_St} {y : Nat} (h : RR σ y) (u w v : Int32) : EV (fun s => fX5_change 5000 s u w v) (fun s => fX6_change 5000 s u w v) σ y := by
  obtain ⟨⟨a, ha⟩, -⟩ := id h
  obtain ⟨i7, i1⟩ := ha.isT
  have hn8 := ha.1.n8
  cases h1 : okR u (nI (nA a) - 1)
  · refine EV.find (w := 0) (by decide) h ?_ ?_
    · simp only [fX5_change, bX5_change_17, x_isTreaty, i7, h1, x_find0, pu_ask, pu_call, pu_bnd, pu_chk, pu_b0, pu_b1, bN_t, bN_f, bN_c, i10, i00, if_true, if_false]
    · simp only [fX6_change, bX6_change_31, bX6_change_37, m_isTreaty, x_fs_n (show 57 ≠ 55 by decide), i1, h1, m_find0, pu_ask, pu_call, pu_bnd, pu_chk, pu_b0, pu_b1, bN_t, bN_f, bN_c, i10, i00, if_true, if_false]
  obtain ⟨t, ht, rfl⟩ := okT ha.1.n8 h1
  cases h2 : okR w 7
  · refine EV.find (w := 0) (by decide) h ?_ ?_
    · simp only [fX5_change, bX5_change_17, x_isTreaty, x_win, i7, h1, h2, x_find0, pu_ask, pu_call, pu_bnd, pu_chk, pu_b0, pu_b1, bN_t, bN_f, bN_c, i10, i00, if_true, if_false]
    · simp only [fX6_change, bX6_change_31, bX6_change_37, m_isTreaty, m_isField0 (show t < 8 by omega) h2, x_fs_n (show 57 ≠ 55 by decide), i1, h1, m_find0, pu_ask, pu_call, pu_bnd, pu_chk, pu_b0, pu_b1, bN_t, bN_f, bN_c, i10, i00, if_true, if_false]
  obtain ⟨k, hk, rfl⟩ := okR_nI (m := 7) (by decide) h2
  obtain ⟨o1, o2⟩ := ha.ok12 ht
  have eC : 1 + 2 + 2 + t = 1 + 4 + t := by omega
  cases h3 : takesT (a (4 + t)) k v
  · refine EV.find (w := 0) (by decide) h ?_ ?_
    · simp only [fX5_change, bX5_change_17, x_isTreaty, x_win, i7, h1, h2, pu_in (show t < 8 by omega) (by decide), nI_clamp (show t < 2 ^ 31 by omega), eC, x_takes (show k < 8 by omega) o1 o2, tE_takes (ha.xT ht), h3, x_find0, pu_ask, pu_call, pu_bnd, pu_chk, pu_b0, pu_b1, bN_t, bN_f, bN_c, i10, i00, if_true, if_false]
    · simp only [fX6_change, bX6_change_31, bX6_change_37, m_isTreaty, m_isField (show t < 8 by omega) (show k < 8 by omega), x_fs_n (show 57 ≠ 55 by decide), i1, h1, tE_takes (ha.mT ht), h3, m_find0, pu_ask, pu_call, pu_bnd, pu_chk, pu_b0, pu_b1, bN_t, bN_f, bN_c, i10, i00, if_true, if_false]
  refine ⟨a (4 + t) k, mt_row σ (1 + 4 + t) (upd (σ (1 + 4 + t)) k v), mt_row (mt_row σ (1 + 4 + t) (upd (σ (1 + 4 + t)) k v)) 57 (upd (σ 57) (22 + 8 * t + k) v), ?_, ?_, h.act (Nat.le_refl _) (ha.field ht (by omega) ((ha.wT ht).takes (by omega) h3)) ((loud.row (by omega)).tr (loud.row (by omega)))⟩
  · simp only [fX5_change, bX5_change_17, x_isTreaty, x_win, i7, h1, h2, pu_in (show t < 8 by omega) (by decide), nI_clamp (show t < 2 ^ 31 by omega), eC, x_takes (show k < 8 by omega) o1 o2, tE_takes (ha.xT ht), h3, x_tell (show k < 8 by omega), x_alter (show k < 8 by omega), ha.xT ht k (by omega), pu_ask, pu_call, pu_bnd, pu_chk, pu_b0, pu_b1, bN_t, bN_f, bN_c, i10, i00, if_true, if_false]
  · have e57 : mt_row σ (1 + 4 + t) (upd (σ (1 + 4 + t)) k v) 57 = σ 57 := mt_row_n (by omega)
    have eat : fX6_treatyAt 5000 (nI t) (nI k) = some (nI (22 + 8 * t + k)) := congrArg some (m_ix t k)
    simp only [fX6_change, bX6_change_31, bX6_change_37, m_isTreaty, m_isField (show t < 8 by omega) (show k < 8 by omega), e57, i1, h1, tE_takes (ha.mT ht), h3, eat, m_become (show 22 + 8 * t + k < 86 by omega), pu_ask, pu_call, pu_bnd, pu_chk, pu_b0, pu_b1, bN_t, bN_f, bN_c, i10, i00, if_true, if_false]
    rw [← ha.mT ht k (by omega)]
    rfl
