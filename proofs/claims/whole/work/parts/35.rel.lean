/-! the relation between the two, call by call -/
def okR (v m : Int32) : Bool := decide (¬ v < 0 ∧ ¬ m < v)
def bN (b : Bool) : Int32 := if b = true then 1 else 0
theorem bN_t : bN true = 1 := rfl
theorem bN_f : bN false = 0 := rfl
theorem bN_c (b : Bool) : mt_b01 (bN b) = true := by cases b <;> rfl
theorem i10 : ((1 : Int32) = 0) = False := by decide
theorem i00 : ((0 : Int32) = 0) = True := by decide
theorem x_win (fu : Nat) (v m : Int32) : fX5_isWithin fu v m = some (bN (okR v m)) := by
  rw [x_within]
  unfold okR bN
  by_cases h1 : v < 0
  · simp [h1]
  · by_cases h2 : m < v <;> simp [h1, h2]
theorem m_win (fu : Nat) (v m : Int32) : fX6_within fu v 0 m = some (bN (okR v m)) := by
  unfold fX6_within bX6_within_14 bX6_within_15 okR bN
  by_cases h1 : v < 0
  · simp [h1]; rfl
  · by_cases h2 : m < v
    · simp [h1, h2]; rfl
    · simp [h1, h2]; rfl
theorem okR_nI {v : Int32} {m : Nat} (hm : m < 2 ^ 31) (h : okR v (nI m) = true) : ∃ j, j ≤ m ∧ v = nI j := by
  unfold okR at h
  simp only [decide_eq_true_eq] at h
  exact nI_of2 (nI_toInt hm) h.1 (Int32.not_lt.mp h.2)
theorem okR_of {j m : Nat} (h : j ≤ m) (hm : m < 2 ^ 31) : okR (nI j) (nI m) = true := by
  unfold okR
  simp only [decide_eq_true_eq]
  exact ⟨nI_pos (by omega), nI_nlt h hm⟩
theorem okR_T {v : Int32} {n : Nat} (hn : n ≤ 8) (h : okR v (nI n - 1) = true) : ∃ t, t < n ∧ v = nI t := by
  cases n with
  | zero =>
    unfold okR at h
    simp only [decide_eq_true_eq] at h
    have e : nI 0 - 1 = (-1 : Int32) := by decide
    rw [e] at h
    have h1 := Int32.not_lt.mp h.1
    have h2 := Int32.not_lt.mp h.2
    rw [Int32.le_iff_toInt_le] at h1 h2
    have e1 : (0 : Int32).toInt = 0 := rfl
    have e2 : (-1 : Int32).toInt = -1 := rfl
    omega
  | succ n =>
    rw [nI_pred] at h
    obtain ⟨j, hj, e⟩ := okR_nI (by omega) h
    exact ⟨j, by omega, e⟩
theorem okR_Tof {t n : Nat} (h : t < n) (hn : n ≤ 8) : okR (nI t) (nI n - 1) = true := by
  obtain ⟨n, rfl⟩ : ∃ q, n = q + 1 := ⟨n - 1, by omega⟩
  rw [nI_pred]
  exact okR_of (by omega) (by omega)
def sumF (f : Nat → Int32) : Nat → Int32
  | 0 => 0
  | k + 1 => sumF f k + f k
def RA (σ : mt_St) (y : Nat) (a : AW) : Prop := wfA a y ∧ SX a σ 1 ∧ SM a (σ 57)
def RK (σ : mt_St) (y : Nat) : Prop := σ 56 3 = σ 0 2 ∧ (σ 0 2 = 0 ∨ (σ 0 2 = 1 ∧ ∃ a, wfA a y ∧ SX a σ 13 ∧ SM a (σ 58)))
def RF (σ : mt_St) : Prop := (∀ k, k < 7 → σ 60 (k + 1) = σ 55 k) ∧ σ 60 0 = sumF (σ 55) 7
def RS (σ : mt_St) : Prop := ∀ s, s < 4 → σ 64 s = σ (47 + s) 0 ∧ σ 65 s = σ (47 + s) 1 ∧ (∀ k, k < 40 → σ 66 (40 * s + k) = σ (51 + s) k) ∧ (σ (47 + s) 0 = 0 ∨ σ (47 + s) 0 = 8 ∨ σ (47 + s) 0 = 16 ∨ σ (47 + s) 0 = 32) ∧ ∃ n, n ≤ 40 ∧ σ (47 + s) 1 = nI n
def RT (σ : mt_St) : Prop := σ 56 7 = σ 44 1 ∧ ∃ n, n ≤ 120 ∧ σ 44 1 = nI n ∧ ∀ k, k < n → ∃ b, b < 256 ∧ σ 61 k = nI b ∧ σ 45 k = (nI b).toInt8.toInt32
def RR (σ : mt_St) (y : Nat) : Prop := (∃ a, RA σ y a) ∧ RK σ y ∧ RF σ ∧ RS σ ∧ RT σ
/-- nothing that later calls show has changed -/
def quiet (σ σ' : mt_St) : Prop := (∀ c, c ≤ 24 ∨ 45 ≤ c → c ≠ 56 → c ≠ 57 → c ≠ 59 → c ≠ 63 → c ≠ 67 → σ' c = σ c) ∧ σ' 44 1 = σ 44 1 ∧ σ' 56 3 = σ 56 3 ∧ σ' 56 7 = σ 56 7 ∧ ∀ k, k < 86 → σ' 57 k = σ 57 k
theorem quiet.rf {σ : mt_St} : quiet σ σ := ⟨fun _ _ _ _ _ _ _ => rfl, rfl, rfl, rfl, fun _ _ => rfl⟩
theorem quiet.tr {σ σ' σ'' : mt_St} (h : quiet σ σ') (h2 : quiet σ' σ'') : quiet σ σ'' := ⟨fun c a b d e f g => (h2.1 c a b d e f g).trans (h.1 c a b d e f g), h2.2.1.trans h.2.1, h2.2.2.1.trans h.2.2.1, h2.2.2.2.1.trans h.2.2.2.1, fun k hk => (h2.2.2.2.2 k hk).trans (h.2.2.2.2 k hk)⟩
theorem SX.same {a : AW} {σ σ' : mt_St} {w : Nat} (hn : nA a ≤ 8) (h : SX a σ w) (h2 : ∀ c, w ≤ c → c < w + 12 → σ' c = σ c) : SX a σ' w := by
  obtain ⟨e, hl, hs, ht⟩ := h
  refine ⟨?_, fun i hi => ?_, fun i hi => ?_, fun t htn => ?_⟩
  · rw [h2 w (by omega) (by omega)]; exact e
  · rw [h2 (w + 1) (by omega) (by omega)]; exact hl i hi
  · rw [h2 (w + 3) (by omega) (by omega)]; exact hs i hi
  · rw [h2 (w + 4 + t) (by omega) (by omega)]; exact ht t htn
theorem wfA.mono {a : AW} {y y' : Nat} (h : wfA a y) (hy : y ≤ y') : wfA a y' := by
  obtain ⟨h1, h2, h3, h4, ⟨z, hz, ez⟩, h6⟩ := h
  exact ⟨h1, h2, h3, h4, ⟨z, by omega, ez⟩, h6⟩
theorem RA.same {σ σ' : mt_St} {y : Nat} {a : AW} (h : RA σ y a) (h2 : ∀ c, 1 ≤ c → c < 13 → σ' c = σ c) (h3 : ∀ k, k < 86 → σ' 57 k = σ 57 k) : RA σ' y a :=
  ⟨h.1, h.2.1.same h.1.n.1 (fun c a b => h2 c (by omega) (by omega)), h.2.2.same h.1.n.1 h3⟩
theorem RK.same {σ σ' : mt_St} {y : Nat} (h : RK σ y) (h2 : ∀ c, 13 ≤ c → c < 25 → σ' c = σ c) (h3 : σ' 58 = σ 58) (h0 : σ' 0 = σ 0) (h5 : σ' 56 3 = σ 56 3) : RK σ' y := by
  obtain ⟨e, h⟩ := h
  refine ⟨by rw [h5, h0]; exact e, ?_⟩
  rw [h0, h3]
  rcases h with h | ⟨h, a, w, x, m⟩
  · exact Or.inl h
  · exact Or.inr ⟨h, a, w, x.same w.n.1 (fun c p q => h2 c (by omega) (by omega)), m⟩
theorem RK.mono {σ : mt_St} {y y' : Nat} (h : RK σ y) (hy : y ≤ y') : RK σ y' := by
  obtain ⟨e, h⟩ := h
  refine ⟨e, ?_⟩
  rcases h with h | ⟨h, a, w, x⟩
  · exact Or.inl h
  · exact Or.inr ⟨h, a, w.mono hy, x⟩
theorem RF.same {σ σ' : mt_St} (h : RF σ) (h2 : σ' 55 = σ 55) (h3 : σ' 60 = σ 60) : RF σ' := by
  unfold RF; rw [h2, h3]; exact h
theorem RS.same {σ σ' : mt_St} (h : RS σ) (h2 : ∀ c, 47 ≤ c → c < 55 → σ' c = σ c) (h3 : σ' 64 = σ 64) (h4 : σ' 65 = σ 65) (h5 : σ' 66 = σ 66) : RS σ' := by
  intro s hs
  rw [h3, h4, h5, h2 (47 + s) (by omega) (by omega), h2 (51 + s) (by omega) (by omega)]
  exact h s hs
theorem RT.same {σ σ' : mt_St} (h : RT σ) (h2 : σ' 56 7 = σ 56 7) (h3 : σ' 44 1 = σ 44 1) (h4 : σ' 45 = σ 45) (h5 : σ' 61 = σ 61) : RT σ' := by
  unfold RT; rw [h2, h3, h4, h5]; exact h
theorem RR.mono {σ : mt_St} {y y' : Nat} (h : RR σ y) (hy : y ≤ y') : RR σ y' := by
  obtain ⟨⟨a, h1⟩, h2, h3⟩ := h
  exact ⟨⟨a, h1.1.mono hy, h1.2⟩, h2.mono hy, h3⟩
theorem RA.quiet {σ σ' : mt_St} {y : Nat} {a : AW} (h : RA σ y a) (q : quiet σ σ') : RA σ' y a := h.same (fun c a b => q.1 c (by omega) (by omega) (by omega) (by omega) (by omega) (by omega)) q.2.2.2.2
theorem RR.quiet {σ σ' : mt_St} {y : Nat} (h : RR σ y) (q : quiet σ σ') : RR σ' y := by
  obtain ⟨⟨a, h1⟩, h2, h3, h4, h5⟩ := h
  obtain ⟨qc, q1, q2, q3, q4⟩ := id q
  have qc' : ∀ c, (c ≤ 24 ∨ 45 ≤ c) ∧ c ≠ 56 ∧ c ≠ 57 ∧ c ≠ 59 ∧ c ≠ 63 ∧ c ≠ 67 → σ' c = σ c := fun c hc => qc c hc.1 hc.2.1 hc.2.2.1 hc.2.2.2.1 hc.2.2.2.2.1 hc.2.2.2.2.2
  refine ⟨⟨a, h1.quiet q⟩, h2.same (fun c a b => qc' c (by omega)) (qc' 58 (by omega)) (qc' 0 (by omega)) q2, h3.same (qc' 55 (by omega)) (qc' 60 (by omega)), h4.same (fun c a b => qc' c (by omega)) (qc' 64 (by omega)) (qc' 65 (by omega)) (qc' 66 (by omega)), h5.same q3 q1 (qc' 45 (by omega)) (qc' 61 (by omega))⟩
/-- both sides answer alike, and the relation holds behind the call -/
def EV {α : Type} (f g : mt_St → Option (α × mt_St)) (σ : mt_St) (y : Nat) : Prop := ∃ r σ1 σ2, f σ = some (r, σ1) ∧ g σ1 = some (r, σ2) ∧ RR σ2 y
def x_fs (σ : mt_St) (w : Nat) : mt_St := mt_row σ 55 (upd (σ 55) w (σ 55 w + 1))
theorem x_find (fu : Nat) {w : Nat} (σ : mt_St) (hw : w < 7) : fX5_finding fu σ (nI w) = some (-1000001 - nI w, x_fs σ w) := by
  unfold fX5_finding bX5_finding_19
  rw [x_win, pu_ask, show okR (nI w) 6 = true from okR_of (m := 6) (by omega) (by decide), bN_t, if_neg (by decide), pu_chkP (pu_in hw (by decide)), pu_chkP (pu_in hw (by decide)), pu_bnd, nI_clamp (by omega)]
  rfl
def m_fs (σ : mt_St) (w : Nat) : mt_St := mt_row σ 60 (upd (upd (σ 60) (w + 1) (σ 60 (w + 1) + 1)) 0 (σ 60 0 + 1))
theorem m_find (fu : Nat) {w : Nat} (σ : mt_St) (hw : w < 7) : fX6_finding fu σ (-1000001 - nI w) = some (-1000001 - nI w, m_fs σ w) := by
  have e : (-1000001 : Int32) - (-1000001 - nI w) + 1 = nI (w + 1) := by
    rcases (show w = 0 ∨ w = 1 ∨ w = 2 ∨ w = 3 ∨ w = 4 ∨ w = 5 ∨ w = 6 by omega) with rfl | rfl | rfl | rfl | rfl | rfl | rfl <;> decide
  unfold fX6_finding
  rw [e, pu_chkP (pu_in (by omega) (by decide)), pu_chkP (pu_in (by omega) (by decide)), pu_bnd, pu_bnd, nI_clamp (by omega), pu_up, pu_up, mt_row_s, pu_row_row, pu_upd_n (by omega)]
  rfl
theorem sumF_upd (f : Nat → Int32) (w : Nat) (v : Int32) : ∀ n, sumF (upd f w (f w + v)) n = if w < n then sumF f n + v else sumF f n := by
  intro n
  induction n with
  | zero => rfl
  | succ n ih =>
    unfold sumF
    rw [ih]
    by_cases h : w < n
    · rw [if_pos h, if_pos (by omega), pu_upd_n (by omega), Int32.add_assoc, Int32.add_comm v, ← Int32.add_assoc]
    · by_cases h2 : w = n
      · subst h2
        rw [if_neg h, if_pos (by omega), pu_upd_s, Int32.add_assoc]
      · rw [if_neg h, if_neg (by omega), pu_upd_n (by omega)]
/-- both tell the finding -/
theorem RR.find {σ : mt_St} {y w : Nat} (hw : w < 7) (h : RR σ y) : RR (m_fs (x_fs σ w) w) y := by
  obtain ⟨⟨a, h1⟩, h2, ⟨f1, f2⟩, h4, h5⟩ := h
  have e : ∀ c, c ≠ 55 → c ≠ 60 → m_fs (x_fs σ w) w c = σ c := fun c p q => by unfold m_fs x_fs; rw [mt_row_n q, mt_row_n p]
  have e60 : x_fs σ w 60 = σ 60 := by unfold x_fs; rw [mt_row_n (by decide)]
  refine ⟨⟨a, h1.same (fun c p q => e c (by omega) (by omega)) (fun k _ => by rw [e 57 (by decide) (by decide)])⟩, h2.same (fun c p q => e c (by omega) (by omega)) (e 58 (by decide) (by decide)) (e 0 (by decide) (by decide)) (by rw [e 56 (by decide) (by decide)]), ⟨fun k hk => ?_, ?_⟩, h4.same (fun c p q => e c (by omega) (by omega)) (e 64 (by decide) (by decide)) (e 65 (by decide) (by decide)) (e 66 (by decide) (by decide)), h5.same (by rw [e 56 (by decide) (by decide)]) (by rw [e 44 (by decide) (by decide)]) (e 45 (by decide) (by decide)) (e 61 (by decide) (by decide))⟩
  · unfold m_fs
    rw [mt_row_s, mt_row_n (show (55 : Nat) ≠ 60 by decide), e60, pu_upd_n (by omega)]
    unfold x_fs
    rw [mt_row_s]
    by_cases hkw : k = w
    · subst hkw
      rw [pu_upd_s, pu_upd_s, f1 k hk]
    · rw [pu_upd_n (by omega), pu_upd_n hkw, f1 k hk]
  · unfold m_fs
    rw [mt_row_s, mt_row_n (show (55 : Nat) ≠ 60 by decide), e60, pu_upd_s]
    unfold x_fs
    rw [mt_row_s, sumF_upd, if_pos hw, f2]
theorem EV.find {f g : mt_St → Option (Int32 × mt_St)} {σ : mt_St} {y w : Nat} (hw : w < 7) (h : RR σ y) (hf : f σ = some (-1000001 - nI w, x_fs σ w)) (hg : g (x_fs σ w) = some (-1000001 - nI w, m_fs (x_fs σ w) w)) : EV f g σ y := ⟨_, _, _, hf, hg, h.find hw⟩
theorem x_fs_n {σ : mt_St} {w c : Nat} (h : c ≠ 55) : x_fs σ w c = σ c := mt_row_n h
