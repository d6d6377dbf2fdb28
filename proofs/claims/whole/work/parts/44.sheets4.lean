/-! load and judge -/
theorem nI_inj {i t : Nat} (hi : i < 2 ^ 31) (ht : t < 2 ^ 31) (e : nI i = nI t) : i = t := by
  rw [← nI_clamp hi, ← nI_clamp ht, e]
theorem okR_Tno {i n : Nat} (hn : n ≤ 8) (hi : i < 2 ^ 31) (h : n ≤ i) : okR (nI i) (nI n - 1) = false := by
  cases q2 : okR (nI i) (nI n - 1)
  · rfl
  · obtain ⟨t, ht, e⟩ := okT hn q2
    have : i = t := nI_inj (by omega) (by omega) e
    omega
def ldN (g : Nat → Int32) : Nat → Nat → Nat
  | 0, i => i
  | d + 1, i => if okR (g i) 4095 = true then ldN g d (i + 1) else i
def ldA (g : Nat → Int32) : Nat → Nat → AW → AW
  | 0, _, a => a
  | d + 1, i, a => if okR (g i) 4095 = true then ldA g d (i + 1) (mt_row a (4 + i) (upd (a (4 + i)) 3 (g i))) else a
theorem nA_treat (a : AW) (t : Nat) (T : Nat → Int32) : nA (mt_row a (4 + t) T) = nA a := by unfold nA; rw [mt_row_n (by omega)]
theorem ldA_nA (g : Nat → Int32) : ∀ d i a, nA (ldA g d i a) = nA a := by
  intro d
  induction d with
  | zero => intro i a; rfl
  | succ d ih =>
    intro i a
    unfold ldA
    split
    · rw [ih, nA_treat]
    · rfl
theorem ldA_wf {g : Nat → Int32} {y : Nat} : ∀ d i a, i + d ≤ nA a → wfA a y → wfA (ldA g d i a) y := by
  intro d
  induction d with
  | zero => intro i a _ h; exact h
  | succ d ih =>
    intro i a hd h
    unfold ldA
    split
    · rename_i hg
      refine ih _ _ (by rw [nA_treat]; omega) (h.treat (by omega) ?_)
      exact (h.2.2.2.2.2.2.2 i (by omega)).takes (k := 3) (by decide) hg
    · exact h
theorem ldN_le (g : Nat → Int32) : ∀ d i, ldN g d i ≤ i + d := by
  intro d
  induction d with
  | zero => intro i; exact Nat.le_refl _
  | succ d ih =>
    intro i
    unfold ldN
    split
    · have := ih (i + 1); omega
    · omega
theorem x_ldLoop {g : Nat → Int32} {s m : Nat} (hs : s < 4) (hm : m ≤ 8) : ∀ (d i fuel : Nat) (a : AW) (σ : mt_St), m = i + d → m ≤ nA a → nA a ≤ 8 → d < fuel → SX a σ 1 → (∀ k, k < 40 → σ (51 + s) k = g k) → ∃ σ', bX5_load_39 5000 fuel σ (nI s) (nI m) (nI i) = some (nI (ldN g d i), σ') ∧ SX (ldA g d i a) σ' 1 ∧ frW 1 σ σ' := by
  intro d
  induction d with
  | zero =>
    intro i fuel a σ hd hma hn8 hf h hg
    obtain ⟨fuel, rfl⟩ : ∃ q, fuel = q + 1 := ⟨fuel - 1, by omega⟩
    have : i = m := by omega
    subst this
    unfold bX5_load_39
    rw [if_pos (nI_le (Nat.le_refl _) (by omega))]
    exact ⟨σ, rfl, h, frW.rf⟩
  | succ d ih =>
    intro i fuel a σ hd hma hn8 hf h hg
    obtain ⟨fuel, rfl⟩ : ∃ q, fuel = q + 1 := ⟨fuel - 1, by omega⟩
    unfold bX5_load_39
    rw [if_neg (nI_ge (by omega) (by omega)), pu_chkP (pu_in hs (by decide)), pu_chkP (pu_in (by omega) (by decide)), nI_clamp (show s < 2 ^ 31 by omega), nI_clamp (show i < 2 ^ 31 by omega), show 46 + 1 + s + 4 = 51 + s by omega, hg i (by omega), x_win, pu_ask]
    unfold ldN ldA
    cases q : okR (g i) 4095
    · exact ⟨σ, rfl, h, frW.rf⟩
    · rw [bN_t, if_neg (by decide), if_pos rfl, if_pos rfl, pu_chkP (pu_in (by omega) (by decide)), pu_chkP (pu_in hs (by decide)), pu_chkP (pu_in (by omega) (by decide)), pu_bnd, nI_1, show 1 + 2 + 2 + i = 1 + 4 + i by omega, pu_up]
      obtain ⟨σ', e1, e2, e3⟩ := ih (i + 1) fuel (mt_row a (4 + i) (upd (a (4 + i)) 3 (g i))) (mt_row σ (1 + 4 + i) (upd (σ (1 + 4 + i)) 3 (g i))) (by omega) (by rw [nA_treat]; exact hma) (by rw [nA_treat]; exact hn8) (by omega) (h.treat (by omega) (tE_upd (h.2.2.2 i (by omega)) 3 (g i))) (fun k hk => by rw [mt_row_n (by omega)]; exact hg k hk)
      exact ⟨σ', e1, e2, (frW.row (by omega) (by omega)).tr e3⟩
theorem SM.field {a : AW} {r : Nat → Int32} {t k : Nat} {v : Int32} (h : SM a r) (ht : t < nA a) (hk : k < 8) : SM (mt_row a (4 + t) (upd (a (4 + t)) k v)) (upd r (22 + 8 * t + k) v) := by
  refine h.treat ht (fun q hq => pu_upd_n (by omega)) (fun j hj => ?_)
  show upd r (22 + 8 * t + k) v (22 + 8 * t + j) = upd (a (4 + t)) k v j
  by_cases e : j = k
  · subst e; rw [pu_upd_s, pu_upd_s]
  · rw [pu_upd_n (by omega), pu_upd_n e]; exact h.2.2.2 t ht j hj
theorem m_ldLoop {g : Nat → Int32} {s m l : Nat} (hs : s < 4) (hl : l ≤ 40) : ∀ (d i fuel : Nat) (a : AW) (σ : mt_St), m = i + d → m = min l (nA a) → nA a ≤ 8 → a 0 7 = nI (nA a) → d < fuel → SM a (σ 57) → σ 65 s = nI l → (∀ k, k < 40 → σ 66 (40 * s + k) = g k) → ∃ σ', bX6_load_22 5000 fuel σ (nI s) (nI i) = some (nI (ldN g d i), σ') ∧ SM (ldA g d i a) (σ' 57) ∧ frM σ σ' := by
  intro d
  induction d with
  | zero =>
    intro i fuel a σ hd hma hn8 h7 hf h hl65 hg
    obtain ⟨fuel, rfl⟩ : ∃ q, fuel = q + 1 := ⟨fuel - 1, by omega⟩
    have i1 : σ 57 1 = nI (nA a) := h.1.2.2.2.2.2.trans h7
    unfold bX6_load_22 bX6_load_84
    rw [pu_chkP (pu_in hs (by decide)), nI_clamp (show s < 2 ^ 31 by omega), hl65]
    by_cases q : l ≤ i
    · rw [if_pos (nI_le q (by omega))]
      exact ⟨σ, rfl, h, frM.rf⟩
    · rw [if_neg (nI_ge (by omega) (by omega)), m_isTreaty, pu_ask, i1]
      have : okR (nI i) (nI (nA a) - 1) = false := okR_Tno hn8 (by omega) (by omega)
      rw [this]
      exact ⟨σ, rfl, h, frM.rf⟩
  | succ d ih =>
    intro i fuel a σ hd hma hn8 h7 hf h hl65 hg
    obtain ⟨fuel, rfl⟩ : ∃ q, fuel = q + 1 := ⟨fuel - 1, by omega⟩
    have i1 : σ 57 1 = nI (nA a) := h.1.2.2.2.2.2.trans h7
    unfold bX6_load_22 bX6_load_84
    rw [pu_chkP (pu_in hs (by decide)), nI_clamp (show s < 2 ^ 31 by omega), hl65, if_neg (nI_ge (by omega) (by omega)), m_isTreaty, pu_ask, i1, okR_Tof (show i < nA a by omega) hn8, bN_t, if_neg (by decide), m_i40, pu_chkP (pu_in (by omega) (by decide)), nI_clamp (show 40 * s + i < 2 ^ 31 by omega), hg i (by omega), m_isFigures, pu_ask]
    unfold ldN ldA
    cases q : okR (g i) 4095
    · exact ⟨σ, rfl, h, frM.rf⟩
    · rw [bN_t, if_neg (by decide), if_pos rfl, if_pos rfl, m_at3, pu_ask, pu_chkP (pu_in (by omega) (by decide)), pu_chkP (pu_in (by omega) (by decide)), pu_bnd, nI_1, nI_clamp (by omega), pu_up]
      obtain ⟨σ', e1, e2, e3⟩ := ih (i + 1) fuel (mt_row a (4 + i) (upd (a (4 + i)) 3 (g i))) (mt_row σ 57 (upd (σ 57) (22 + 8 * i + 3) (g i))) (by omega) (by rw [nA_treat]; exact hma) (by rw [nA_treat]; exact hn8) (by rw [nA_treat, mt_row_n (by omega)]; exact h7) (by omega) (by rw [mt_row_s]; exact h.field (by omega) (by decide)) (by rw [mt_row_n (by decide)]; exact hl65) (fun k hk => by rw [mt_row_n (by decide)]; exact hg k hk)
      exact ⟨σ', e1, e2, frM.row.tr e3⟩
theorem x_fault1 {σ : mt_St} {u : Int32} (h1 : okR u 3 = false) : fX5_faultOfSheet 5000 σ u = some 0 := by
  simp only [fX5_faultOfSheet, x_isSheet, h1, pu_ask, pu_call, pu_bnd, pu_chk, pu_b0, pu_b1, bN_t, bN_f, bN_c, i10, i00, if_true, if_false]
theorem x_fault2 {σ : mt_St} {s : Nat} (h1 : okR (nI s) 3 = true) (hs : s < 4) : fX5_faultOfSheet 5000 σ (nI s) = some (if σ (47 + s) 0 = 0 then 5 else -1) := by
  simp only [fX5_faultOfSheet, bX5_faultOfSheet_27, x_isSheet, h1, pu_in hs (show 4 < 2 ^ 31 by decide), nI_clamp (show s < 2 ^ 31 by omega), show 46 + 1 + s = 47 + s by omega, x_missing, pu_ask, pu_call, pu_bnd, pu_chk, pu_b0, pu_b1, bN_t, bN_f, bN_c, i10, i00, if_true, if_false]
  by_cases q : σ (47 + s) 0 = 0
  · simp only [q, decide_true, pu_ask, pu_call, pu_bnd, pu_chk, pu_b0, pu_b1, bN_t, bN_f, bN_c, i10, i00, if_true, if_false]
  · simp only [q, decide_false, pu_ask, pu_call, pu_bnd, pu_chk, pu_b0, pu_b1, bN_t, bN_f, bN_c, i10, i00, if_true, if_false]
theorem m_lack1 {σ : mt_St} {u w : Int32} (h1 : okR u 3 = false) : fX6_lacks 5000 σ u w = some (-1000001) := by
  simp only [fX6_lacks, bX6_lacks_36, m_isSheet, h1, pu_ask, pu_call, pu_bnd, pu_chk, pu_b0, pu_b1, bN_t, bN_f, bN_c, i10, i00, if_true, if_false]
theorem m_lack2 {σ : mt_St} {s : Nat} (h1 : okR (nI s) 3 = true) (hs : s < 4) : fX6_lacks 5000 σ (nI s) 1 = some (if σ 64 s = 0 then -1000006 else 0) := by
  simp only [fX6_lacks, bX6_lacks_36, m_isSheet, h1, pu_in hs (show 4 < 2 ^ 31 by decide), nI_clamp (show s < 2 ^ 31 by omega), pu_ask, pu_call, pu_bnd, pu_chk, pu_b0, pu_b1, bN_t, bN_f, bN_c, i10, i00, if_true, if_false]
  by_cases q : σ 64 s = 0
  · simp only [q, pu_ask, pu_call, pu_bnd, pu_chk, pu_b0, pu_b1, bN_t, bN_f, bN_c, i10, i00, if_true, if_false]
  · simp only [q, pu_ask, pu_call, pu_bnd, pu_chk, pu_b0, pu_b1, bN_t, bN_f, bN_c, i10, i00, if_true, if_false]
theorem e_load {σ : mt_St} {y : Nat} (h : RR σ y) (u : Int32) : EV (fun s => fX5_load 5000 s u) (fun s => fX6_load 5000 s u) σ y := by
  cases h1 : okR u 3
  · refine EV.find (w := 0) (by decide) h ?_ ?_
    · simp only [fX5_load, x_fault1 h1, x_find0, pu_ask, pu_call, pu_bnd, pu_chk, pu_b0, pu_b1, bN_t, bN_f, bN_c, i10, i00, if_true, if_false]; rfl
    · simp only [fX6_load, m_lack1 h1, m_find0, pu_ask, pu_call, pu_bnd, pu_chk, pu_b0, pu_b1, bN_t, bN_f, bN_c, i10, i00, if_true, if_false]; rfl
  obtain ⟨s, hs, rfl⟩ := okR_nI (m := 3) (by decide) h1
  obtain ⟨g1, g2, g3, g4, n, hn, en⟩ := h.2.2.2.1 s (by omega)
  by_cases h2 : σ (47 + s) 0 = 0
  · refine EV.find (w := 5) (by decide) h ?_ ?_
    · simp only [fX5_load, x_fault2 h1 (show s < 4 by omega), h2, x_find5, pu_ask, pu_call, pu_bnd, pu_chk, pu_b0, pu_b1, bN_t, bN_f, bN_c, i10, i00, if_true, if_false]; rfl
    · rw [h2] at g1
      simp only [fX6_load, m_lack2 h1 (show s < 4 by omega), x_fs_n (show 64 ≠ 55 by decide), g1, m_find5, pu_ask, pu_call, pu_bnd, pu_chk, pu_b0, pu_b1, bN_t, bN_f, bN_c, i10, i00, if_true, if_false]; rfl
  have m2 : ¬ σ 64 s = 0 := by rw [g1]; exact h2
  obtain ⟨⟨a, ha⟩, -⟩ := id h
  obtain ⟨i7, i1⟩ := ha.isT
  have hn8 := ha.1.n8
  obtain ⟨σ1, e1, e2, e3⟩ := x_ldLoop (g := σ (51 + s)) (s := s) (m := min n (nA a)) (by omega) (by omega) (min n (nA a)) 0 5000 a σ (by omega) (by omega) hn8 (by omega) ha.2.1 (fun k _ => rfl)
  obtain ⟨σ2, f1, f2, f3⟩ := m_ldLoop (g := σ (51 + s)) (s := s) (m := min n (nA a)) (l := n) (by omega) hn (min n (nA a)) 0 5000 a σ1 (by omega) rfl hn8 ha.1.n.2 (by omega) (by rw [e3 57 (by omega)]; exact ha.2.2) (by rw [e3 65 (by omega), g2, en]) (fun k hk => by rw [e3 66 (by omega)]; exact g3 k hk)
  refine ⟨nI (ldN (σ (51 + s)) (min n (nA a)) 0), σ1, σ2, ?_, ?_, h.act (a := ldA (σ (51 + s)) (min n (nA a)) 0 a) (Nat.le_refl _) ⟨ldA_wf _ _ _ (by omega) ha.1, e2.same (by rw [ldA_nA]; exact hn8) (fun c p q => f3.1 c (by omega) (by omega)), f2⟩ ((frW.loud (Or.inl rfl) e3).tr f3.loud)⟩
  · simp only [fX5_load, x_fault2 h1 (show s < 4 by omega), h2, pu_in (show s < 4 by omega) (show 4 < 2 ^ 31 by decide), nI_clamp (show s < 2 ^ 31 by omega), show 46 + 1 + s = 47 + s by omega, en, i7, pu_ask, pu_call, pu_bnd, pu_chk, pu_b0, pu_b1, bN_t, bN_f, bN_c, i10, i00, if_true, if_false]
    rw [if_pos (by decide), pu_min n (nA a) (by omega) (by omega)]
    exact e1
  · simp only [fX6_load, m_lack2 h1 (show s < 4 by omega), e3 64 (by omega), m2, pu_ask, pu_call, pu_bnd, pu_chk, pu_b0, pu_b1, bN_t, bN_f, bN_c, i10, i00, if_true, if_false]
    exact f1
/-! judge -/
def jdG (g h : Nat → Int32) (n : Nat) : Nat → Nat → Int32
  | 0, _ => 0
  | d + 1, i => if n ≤ i then nI (1 + i) else if g i = h i then jdG g h n d (i + 1) else nI (1 + i)
theorem x_jdLoop {g h : Nat → Int32} {s l n : Nat} {σ : mt_St} (hs : s < 4) (hl : l ≤ 40) (hn : n ≤ 8) (hl1 : σ (47 + s) 1 = nI l) (hn1 : σ 1 7 = nI n) (hg : ∀ k, k < 40 → σ (51 + s) k = g k) (hh : ∀ t, t < n → σ (1 + 4 + t) 5 = h t) : ∀ (d i fuel : Nat), l = i + d → d < fuel → bX5_judge_18 5000 fuel σ (nI s) (nI i) = some (jdG g h n d i, σ) := by
  intro d
  induction d with
  | zero =>
    intro i fuel hd hf
    obtain ⟨fuel, rfl⟩ : ∃ q, fuel = q + 1 := ⟨fuel - 1, by omega⟩
    unfold bX5_judge_18
    rw [pu_chkP (pu_in hs (by decide)), nI_clamp (show s < 2 ^ 31 by omega), show 46 + 1 + s = 47 + s by omega, hl1, if_pos (nI_le (by omega) (by omega))]
    rfl
  | succ d ih =>
    intro i fuel hd hf
    obtain ⟨fuel, rfl⟩ : ∃ q, fuel = q + 1 := ⟨fuel - 1, by omega⟩
    unfold bX5_judge_18 bX5_judge_65 jdG
    rw [pu_chkP (pu_in hs (by decide)), nI_clamp (show s < 2 ^ 31 by omega), show 46 + 1 + s = 47 + s by omega, hl1, if_neg (nI_ge (by omega) (by omega)), x_isTreaty, pu_ask, hn1, show (1 : Int32) + nI i = nI (1 + i) from nI_add 1 i]
    by_cases q : n ≤ i
    · rw [okR_Tno hn (by omega) q, if_pos q]
      rfl
    · rw [okR_Tof (show i < n by omega) hn, bN_t, if_neg (by decide), if_neg q, pu_chkP (pu_in (by omega) (by decide)), pu_chkP (pu_in hs (by decide)), pu_chkP (pu_in (by omega) (by decide)), nI_clamp (show i < 2 ^ 31 by omega), show 1 + 2 + 2 + i = 1 + 4 + i by omega, hh i (by omega), show 47 + s + 4 = 51 + s by omega, hg i (by omega), nI_1]
      by_cases e : h i = g i
      · rw [if_pos e, if_pos e.symm]
        exact ih (i + 1) fuel (by omega) (by omega)
      · rw [if_neg e, if_neg (fun q => e q.symm)]
theorem m_jdLoop {g h : Nat → Int32} {s l n : Nat} {σ : mt_St} (hs : s < 4) (hl : l ≤ 40) (hn : n ≤ 8) (hl1 : σ 65 s = nI l) (hn1 : σ 57 1 = nI n) (hg : ∀ k, k < 40 → σ 66 (40 * s + k) = g k) (hh : ∀ t, t < n → gT (σ 57) t 5 = h t) : ∀ (d i fuel : Nat), l = i + d → d < fuel → bX6_judge_22 5000 fuel σ (nI s) (nI i) = some (jdG g h n d i, σ) := by
  have fin : ∀ i, i < l → bX6_judge_66 5000 σ (nI s) (nI i) = some (nI (1 + i), σ) := by
    intro i hi
    unfold bX6_judge_66 bX6_judge_83
    rw [pu_chkP (pu_in hs (by decide)), nI_clamp (show s < 2 ^ 31 by omega), hl1, if_neg (fun q => by have := nI_inj (by omega) (by omega) q; omega), show (1 : Int32) + nI i = nI (1 + i) from nI_add 1 i]
  intro d
  induction d with
  | zero =>
    intro i fuel hd hf
    obtain ⟨fuel, rfl⟩ : ∃ q, fuel = q + 1 := ⟨fuel - 1, by omega⟩
    have : i = l := by omega
    subst this
    unfold bX6_judge_22 bX6_judge_66 bX6_judge_83
    rw [pu_chkP (pu_in hs (by decide)), nI_clamp (show s < 2 ^ 31 by omega), hl1, if_pos (nI_le (by omega) (by omega)), pu_chkP (pu_in hs (by decide)), if_pos rfl]
    rfl
  | succ d ih =>
    intro i fuel hd hf
    obtain ⟨fuel, rfl⟩ : ∃ q, fuel = q + 1 := ⟨fuel - 1, by omega⟩
    unfold bX6_judge_22 jdG
    rw [pu_chkP (pu_in hs (by decide)), nI_clamp (show s < 2 ^ 31 by omega), hl1, if_neg (nI_ge (by omega) (by omega)), m_isTreaty, pu_ask, hn1]
    by_cases q : n ≤ i
    · rw [okR_Tno hn (by omega) q, if_pos q, bN_f, if_pos rfl]
      exact fin i (by omega)
    · rw [okR_Tof (show i < n by omega) hn, bN_t, if_neg (by decide), if_neg q, m_i40, pu_chkP (pu_in (by omega) (by decide)), nI_clamp (show 40 * s + i < 2 ^ 31 by omega), m_is5 5000 σ (show i < 8 by omega), pu_ask, hh i (by omega), hg i (by omega), nI_1]
      by_cases e : g i = h i
      · rw [if_pos e, if_pos e]
        exact ih (i + 1) fuel (by omega) (by omega)
      · rw [if_neg e, if_neg e]
        exact fin i (by omega)
theorem e_judge {σ : mt_St} {y : Nat} (h : RR σ y) (u : Int32) : EV (fun s => fX5_judge 5000 s u) (fun s => fX6_judge 5000 s u) σ y := by
  cases h1 : okR u 3
  · refine EV.find (w := 0) (by decide) h ?_ ?_
    · simp only [fX5_judge, x_fault1 h1, x_find0, pu_ask, pu_call, pu_bnd, pu_chk, pu_b0, pu_b1, bN_t, bN_f, bN_c, i10, i00, if_true, if_false]; rfl
    · simp only [fX6_judge, m_lack1 h1, m_find0, pu_ask, pu_call, pu_bnd, pu_chk, pu_b0, pu_b1, bN_t, bN_f, bN_c, i10, i00, if_true, if_false]; rfl
  obtain ⟨s, hs, rfl⟩ := okR_nI (m := 3) (by decide) h1
  obtain ⟨g1, g2, g3, g4, n, hn, en⟩ := h.2.2.2.1 s (by omega)
  by_cases h2 : σ (47 + s) 0 = 0
  · refine EV.find (w := 5) (by decide) h ?_ ?_
    · simp only [fX5_judge, x_fault2 h1 (show s < 4 by omega), h2, x_find5, pu_ask, pu_call, pu_bnd, pu_chk, pu_b0, pu_b1, bN_t, bN_f, bN_c, i10, i00, if_true, if_false]; rfl
    · rw [h2] at g1
      simp only [fX6_judge, m_lack2 h1 (show s < 4 by omega), x_fs_n (show 64 ≠ 55 by decide), g1, m_find5, pu_ask, pu_call, pu_bnd, pu_chk, pu_b0, pu_b1, bN_t, bN_f, bN_c, i10, i00, if_true, if_false]; rfl
  have m2 : ¬ σ 64 s = 0 := by rw [g1]; exact h2
  obtain ⟨⟨a, ha⟩, -⟩ := id h
  obtain ⟨i7, i1⟩ := ha.isT
  have hn8 := ha.1.n8
  refine EV.same (r := jdG (σ (51 + s)) (fun t => a (4 + t) 5) (nA a) n 0) h ?_ ?_
  · simp only [fX5_judge, x_fault2 h1 (show s < 4 by omega), h2, pu_ask, pu_call, pu_bnd, pu_chk, pu_b0, pu_b1, bN_t, bN_f, bN_c, i10, i00, if_true, if_false]
    rw [if_pos (by decide)]
    exact x_jdLoop (s := s) (l := n) (by omega) hn hn8 en i7 (fun k _ => rfl) (fun t ht => ha.xT ht 5 (by decide)) n 0 5000 (by omega) (by omega)
  · simp only [fX6_judge, m_lack2 h1 (show s < 4 by omega), m2, pu_ask, pu_call, pu_bnd, pu_chk, pu_b0, pu_b1, bN_t, bN_f, bN_c, i10, i00, if_true, if_false]
    exact m_jdLoop (s := s) (l := n) (by omega) hn hn8 (g2.trans en) i1 (fun k hk => g3 k hk) (fun t ht => ha.mT ht 5 (by decide)) n 0 5000 (by omega) (by omega)
