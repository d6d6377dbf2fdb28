/-! fits -/
theorem x_fadeW {σ : mt_St} {T : Nat → Int32} {h n : Nat} (hT : tE (σ 37) T) (hh : h ≤ 9999) (h5 : T 5 = nI h) (hn : n ≤ 60) : ∃ b, fX3_fadesWithin 5000 σ 37 (nI n) = some (bN b) ∧ (b = false → noFade T h n) := by
  have ef : fadesT (σ 37) = fadesT T := by unfold fadesT; rw [hT 0 (by decide)]
  have lp : ∀ (d i fuel : Nat), n + 1 = i + d → d < fuel → (∀ j, 1 ≤ j → j < i → (fadesT T ≤ 0 ∨ ¬ nI (min (h + j) 9999) - nI (min (h + j) 9999) / fadesT T * fadesT T = 0)) → ∃ b, bX3_fadesWithin_2 5000 37 σ fuel (nI n) (nI i) = some (bN b) ∧ (b = false → noFade T h n) := by
    intro d
    induction d with
    | zero =>
      intro i fuel hd hf hz
      obtain ⟨fuel, rfl⟩ : ∃ q, fuel = q + 1 := ⟨fuel - 1, by omega⟩
      unfold bX3_fadesWithin_2
      rw [if_pos (nI_lt (by omega) (by omega))]
      exact ⟨false, rfl, fun _ j h1 h2 => hz j h1 (by omega)⟩
    | succ d ih =>
      intro i fuel hd hf hz
      obtain ⟨fuel, rfl⟩ : ∃ q, fuel = q + 1 := ⟨fuel - 1, by omega⟩
      unfold bX3_fadesWithin_2
      rw [if_neg (nI_nlt (by omega) (by omega)), hT 5 (by decide), h5, nI_add, show (9999 : Int32) = nI 9999 from rfl, pu_min _ 9999 (by omega) (by decide), x_toFade, pu_ask, ef, nI_1]
      by_cases c1 : fadesT T ≤ 0
      · rw [if_pos c1, if_pos rfl]
        exact ih (i + 1) fuel (by omega) (by omega) (fun j _ _ => Or.inl c1)
      · rw [if_neg c1]
        by_cases c2 : nI (min (h + i) 9999) - nI (min (h + i) 9999) / fadesT T * fadesT T = 0
        · rw [if_pos c2, if_neg i10']
          exact ⟨true, rfl, fun e => by cases e⟩
        · rw [if_neg c2, if_pos rfl]
          exact ih (i + 1) fuel (by omega) (by omega) (fun j h1 h2 => by
            by_cases z : j = i
            · rw [z]; exact Or.inr c2
            · exact hz j h1 (by omega))
  unfold fX3_fadesWithin
  exact lp n 1 5000 (by omega) (by omega) (fun j h1 h2 => by omega)
theorem x_orLoop {a : AW} {y n : Nat} {σ : mt_St} (hy : y ≤ 40000) (hn : n ≤ 60) (hw : wfA a y) (hu : ∀ k, k < n → σ 38 k = upA (yrs k a)) : ∀ (d i fuel w : Nat), n = i + d → d < fuel → w < 4096 → (∀ k, k < i → ∃ j, j < 4096 ∧ upA (yrs k a) = nI j ∧ w &&& j = j) → ∃ w', w' < 4096 ∧ bX5_figuresWeighing_48 5000 fuel σ (nI n) (nI w) (nI i) = some (nI w', σ) ∧ ∀ k, k < n → ∃ j, j < 4096 ∧ upA (yrs k a) = nI j ∧ w' &&& j = j := by
  intro d
  induction d with
  | zero =>
    intro i fuel w hd hf hw4 hk
    obtain ⟨fuel, rfl⟩ : ∃ q, fuel = q + 1 := ⟨fuel - 1, by omega⟩
    have : i = n := by omega
    subst this
    unfold bX5_figuresWeighing_48 bX5_figuresWeighing_78
    rw [if_pos (nI_le (Nat.le_refl _) (by omega))]
    exact ⟨w, hw4, rfl, hk⟩
  | succ d ih =>
    intro i fuel w hd hf hw4 hk
    obtain ⟨fuel, rfl⟩ : ∃ q, fuel = q + 1 := ⟨fuel - 1, by omega⟩
    obtain ⟨j, hj, ej⟩ := wf_upS (k := i) hy (by omega) hw
    unfold bX5_figuresWeighing_48
    rw [if_neg (nI_ge (by omega) (by omega)), if_neg (show ¬ (200 : Int32) ≤ nI i from nI_ge (b := 200) (by omega) (by decide)), pu_chkP (pu_in (by omega) (by decide)), nI_clamp (by omega), hu i (by omega), ej, sx_or, nI_1]
    refine ih (i + 1) fuel (w ||| j) (by omega) (by omega) (Nat.or_lt_two_pow (n := 12) hw4 hj) (fun k hk2 => ?_)
    by_cases z : k = i
    · subst z
      refine ⟨j, hj, ej, ?_⟩
      apply Nat.eq_of_testBit_eq
      intro b
      rw [Nat.testBit_and, Nat.testBit_or]
      cases j.testBit b <;> simp
    · obtain ⟨l, hl, el, e⟩ := hk k (by omega)
      refine ⟨l, hl, el, ?_⟩
      apply Nat.eq_of_testBit_eq
      intro b
      have eb : (w &&& l).testBit b = l.testBit b := by rw [e]
      rw [Nat.testBit_and] at eb
      rw [Nat.testBit_and, Nat.testBit_or]
      cases h1 : l.testBit b
      · simp
      · rw [h1] at eb
        cases h2 : w.testBit b
        · rw [h2] at eb; cases eb
        · simp
def ftV (a : AW) (t i : Nat) : Nat → Int32 := fun k => alo a (upd (a (4 + t)) 3 (nI i)) k 4
theorem x_weigh {a : AW} {y n t : Nat} {σ : mt_St} (hy : y ≤ 40000) (hn : n ≤ 60) (hw : wfA a y) (ht : t < nA a) (h : SX a σ 1) (hu : ∀ k, k < n → σ 38 k = upA (yrs k a)) : ∃ W f, W < 4096 ∧ fX5_figuresWeighing 5000 σ (nI t) (nI n) = some (nI W, mt_row σ 37 f) ∧ ∀ m, m < 4096 → ∀ k, k < n → ftV a t m k = ftV a t (m &&& W) k := by
  have hT := hw.2.2.2.2.2.2.2 t ht
  obtain ⟨f, f1, f2⟩ := x_try hw h ht
  unfold fX5_figuresWeighing bX5_figuresWeighing_26
  rw [f1, pu_call, mt_row_s, f2 4 (by decide), f2 0 (by decide)]
  have wS : ∀ m, m < 4096 → wfT (upd (a (4 + t)) 3 (nI m)) := fun m hm => by
    obtain ⟨h0, h1, h2, hne, h3, h4, h5, h6, h7⟩ := hT
    exact ⟨h0, h1, h2, hne, ⟨m, hm, rfl⟩, h4, h5, h6, h7⟩
  by_cases c4 : a (4 + t) 4 = 0
  · rw [if_pos c4]
    refine ⟨0, f, by decide, rfl, fun m hm k hk => ?_⟩
    have r : rlM (upd (a (4 + t)) 3 (nI m)) (upd (a (4 + t)) 3 (nI (m &&& 0))) := ⟨nI (m &&& 0), by rw [upd_upd], Or.inl (by rw [pu_upd_n (by decide)]; exact c4)⟩
    exact (r.alo (a := a) k).f4.symm
  · rw [if_neg c4]
    by_cases c5 : a (4 + t) 0 = 5
    · rw [if_pos c5]
      refine ⟨0, f, by decide, rfl, fun m hm k hk => ?_⟩
      have b1 := (blank_alo hw (wS m hm) (by rw [pu_upd_n (by decide)]; exact c5) (by rw [pu_upd_n (by decide)]; exact c4) k).1
      have b2 := (blank_alo hw (wS (m &&& 0) (by rw [Nat.and_zero]; decide)) (by rw [pu_upd_n (by decide)]; exact c5) (by rw [pu_upd_n (by decide)]; exact c4) k).1
      rw [pu_upd_n (by decide)] at b1 b2
      exact b1.trans b2.symm
    · rw [if_neg c5]
      obtain ⟨hd, hh, e5⟩ := hT.2.2.2.2.2.2.1
      obtain ⟨b, b1, b2⟩ := x_fadeW (σ := mt_row σ 37 f) (T := a (4 + t)) (n := n) (by rw [mt_row_s]; exact f2) hh e5 hn
      rw [b1, pu_ask]
      cases b with
      | true =>
        rw [bN_t, if_neg i10']
        refine ⟨4095, f, by decide, rfl, fun m hm k hk => ?_⟩
        have : m &&& 4095 = m := by
          have := Nat.and_two_pow_sub_one_eq_mod m 12
          rw [show 2 ^ 12 - 1 = 4095 from rfl] at this
          rw [this, Nat.mod_eq_of_lt hm]
        rw [this]
      | false =>
        rw [bN_f, if_pos rfl]
        obtain ⟨w, w1, w2, w3⟩ := x_orLoop (σ := mt_row σ 37 f) hy hn hw (fun k hk => by rw [mt_row_n (by decide)]; exact hu k hk) n 0 5000 0 (by omega) (by omega) (by decide) (fun k hk => by omega)
        refine ⟨w, f, w1, w2, fun m hm k hk => ?_⟩
        rcases ph_alo hy hw hn c4 hh e5 hm (b2 rfl) w3 k (by omega) with ⟨p1, p2⟩ | r
        · show alo a (upd (a (4 + t)) 3 (nI m)) k 4 = alo a (upd (a (4 + t)) 3 (nI (m &&& w))) k 4
          rw [p1, p2, pu_upd_n (by decide), pu_upd_n (by decide), pu_upd_n (by decide), pu_upd_n (by decide)]
        · exact r.f4.symm
theorem n12 : ∀ q : Nat, q < 13 → (12 : Int32) - nI q = nI (12 - q) := by decide +kernel
theorem x_fitLoop {a : AW} {y m t s l W : Nat} {g : Nat → Int32} (hs : s < 4) (hl : l ≤ 40) (hm : m ≤ l) (hW : W < 4096) (hw : wfA a y) (ht : t < nA a) : ∀ (d i fuel : Nat) (σ : mt_St), W + 1 = i + d → d < fuel → SX a σ 1 → (∀ k, k < m → σ 38 k = upA (yrs k a)) → σ (47 + s) 1 = nI l → (∀ k, k < 40 → σ (51 + s) k = g k) → ∃ f, bX5_fits_51 5000 fuel σ (nI s) (nI t) (nI m) (nI W) (nI (sumN (fun i => if i &&& W = i then (fol g (ftV a t i) m).toNat else 0) i)) (nI i) = some (nI (sumN (fun i => if i &&& W = i then (fol g (ftV a t i) m).toNat else 0) (W + 1) * 2 ^ (12 - cnt W)), mt_row σ 37 f) := by
  have hn8 := hw.n8
  intro d
  induction d with
  | zero =>
    intro i fuel σ hd hf h hu h1 hg
    obtain ⟨fuel, rfl⟩ : ∃ q, fuel = q + 1 := ⟨fuel - 1, by omega⟩
    have : i = W + 1 := by omega
    subst this
    have c1 := cnt_12 W
    unfold bX5_fits_51
    rw [if_pos (nI_lt (by omega) (by omega)), pc_x, pu_ask, pc_cnt W hW, n12 _ (by omega), sh_n _ (by omega)]
    exact ⟨σ 37, by rw [mt_row_same]⟩
  | succ d ih =>
    intro i fuel σ hd hf h hu h1 hg
    obtain ⟨fuel, rfl⟩ : ∃ q, fuel = q + 1 := ⟨fuel - 1, by omega⟩
    have st : sumN (fun i => if i &&& W = i then (fol g (ftV a t i) m).toNat else 0) (i + 1) = sumN (fun i => if i &&& W = i then (fol g (ftV a t i) m).toNat else 0) i + (if i &&& W = i then (fol g (ftV a t i) m).toNat else 0) := rfl
    unfold bX5_fits_51 bX5_fits_89
    rw [if_neg (nI_nlt (by omega) (by omega)), dif_n (show i < 4096 by omega), nI_1, nI_1]
    have hz : nI (dif i W) = 0 ↔ i &&& W = i := by
      rw [← sub_iff (show i < 4096 by omega)]
      have := dif_lt (s := W) (show i < 4096 by omega)
      exact ⟨fun e => nI_inj (i := dif i W) (t := 0) (by omega) (by omega) e, fun e => by rw [e]; rfl⟩
    by_cases q : i &&& W = i
    · rw [if_pos (hz.mpr q)]
      rw [if_pos q] at st
      obtain ⟨f, f1, f2⟩ := x_try hw h ht
      obtain ⟨l', l1⟩ := x_follow (a := a) (T := upd (a (4 + t)) 3 (nI i)) (g := g) (c := 47 + s) (l := l) (m := m) (w := 4) (σ := mt_row σ 37 (upd f 3 (nI i))) (by omega) hl hm (by decide) (by rw [mt_row_s]; exact tE_upd f2 3 (nI i)) (fun k hk => by rw [mt_row_n (by decide)]; exact hu k hk) (by rw [mt_row_n (by decide)]; exact h.1.1) (by rw [mt_row_n (by omega)]; exact h1) (fun k hk => by rw [mt_row_n (by omega), show 47 + s + 4 = 51 + s by omega]; exact hg k hk)
      rw [pu_row_row] at l1
      obtain ⟨f', e1⟩ := ih (i + 1) fuel (mt_row σ 37 l') (by omega) (by omega) (h.same hn8 (fun c p q => mt_row_n (by omega))) (fun k hk => by rw [mt_row_n (by decide)]; exact hu k hk) (by rw [mt_row_n (by omega)]; exact h1) (fun k hk => by rw [mt_row_n (by omega)]; exact hg k hk)
      rw [pu_row_row, st] at e1
      refine ⟨f', ?_⟩
      have fm : fX5_fitsMark 5000 σ (47 + s) (nI m) (nI t) (nI i) = some (bN (fol g (ftV a t i) m), mt_row σ 37 l') := by
        unfold fX5_fitsMark
        rw [f1, pu_call, pu_bnd, pu_up, mt_row_s, pu_row_row, show (4 : Int32) = nI 4 from rfl, l1, pu_call, bN_c, pu_chk]
        rfl
      rw [pu_chkP (pu_in hs (by decide)), nI_clamp (show s < 2 ^ 31 by omega), show 46 + 1 + s = 47 + s by omega, fm, pu_call]
      cases z : fol g (ftV a t i) m
      · rw [z] at e1
        rw [bN_f, if_pos rfl]; exact e1
      · rw [z] at e1
        rw [bN_t, if_neg i10']; exact e1
    · rw [if_neg (fun z => q (hz.mp z))]
      rw [if_neg q, Nat.add_zero] at st
      have := ih (i + 1) fuel σ (by omega) (by omega) h hu h1 hg
      rw [st] at this
      exact this
theorem m_fitLoop {a : AW} {y M l t s : Nat} {g : Nat → Int32} {mk : Int32} (hs : s < 4) (hl : l ≤ 40) (hM : M = min l 8) (hy : y ≤ 40000) (hw : wfA a y) (ht : t < nA a) : ∀ (d i fuel : Nat) (σ : mt_St), 4096 = i + d → d < fuel → (∃ x, SM a (upd (σ 57) (22 + 8 * t + 3) x)) → σ 65 s = nI l → (∀ k, k < 40 → σ 66 (40 * s + k) = g k) → ∃ σ', bX6_fits_43 5000 fuel σ (nI s) (nI t) (nI (22 + 8 * t + 3)) mk (nI (sumN (fun i => (fol g (ftV a t i) M).toNat) i)) (nI i) = some (nI (sumN (fun i => (fol g (ftV a t i) M).toNat) 4096), σ') ∧ mq (mt_row σ 57 (upd (σ 57) (22 + 8 * t + 3) mk)) σ' := by
  have hn8 := hw.n8
  intro d
  induction d with
  | zero =>
    intro i fuel σ hd hf h h65 hg
    obtain ⟨fuel, rfl⟩ : ∃ q, fuel = q + 1 := ⟨fuel - 1, by omega⟩
    have : i = 4096 := by omega
    subst this
    unfold bX6_fits_43
    rw [if_pos (show (4096 : Int32) ≤ nI 4096 by decide), pu_chkP (pu_in (by omega) (by decide)), pu_bnd, nI_clamp (by omega)]
    exact ⟨_, rfl, mq.rf⟩
  | succ d ih =>
    intro i fuel σ hd hf h h65 hg
    obtain ⟨fuel, rfl⟩ : ∃ q, fuel = q + 1 := ⟨fuel - 1, by omega⟩
    have st : sumN (fun i => (fol g (ftV a t i) M).toNat) (i + 1) = sumN (fun i => (fol g (ftV a t i) M).toNat) i + (fol g (ftV a t i) M).toNat := rfl
    have wT : wfT (upd (a (4 + t)) 3 (nI i)) := (hw.2.2.2.2.2.2.2 t ht).takes (by decide) (show okR (nI i) 4095 = true from okR_of (m := 4095) (by omega) (by decide))
    obtain ⟨σ1, e1, f1⟩ := m_isSo (b := mt_row a (4 + t) (upd (a (4 + t)) 3 (nI i))) (s := s) (j := 22 + 8 * t + 4) (M := M) (g := g) (V := ftV a t i) (σ := mt_up σ 57 (22 + 8 * t + 3) (nI i)) hs (by omega) hy (hw.treat ht wT) (by omega) (by rw [pu_up, mt_row_s]; exact SM.over hn8 ht (by decide) h) (fun k hk => by rw [pu_up, mt_row_n (by decide)]; exact hg k hk) (fun k r hk hr => by
      have := hr.2.2.2 t (by rw [nA_yrs, nA_treat]; exact ht) 4 (by decide)
      rw [yrs_alo ht] at this
      exact this)
    obtain ⟨x, hx⟩ := h
    obtain ⟨σ2, g1, g2⟩ := ih (i + 1) fuel σ1 (by omega) (by omega) ⟨x, hx.same hn8 (fun k hk => by
      by_cases q : k = 22 + 8 * t + 3
      · subst q; rw [pu_upd_s, pu_upd_s]
      · rw [pu_upd_n q, pu_upd_n q, f1.2.2 k hk, pu_up, mt_row_s, pu_upd_n q])⟩ (by rw [f1.1 65 (by decide) (by decide) (by decide), pu_up, mt_row_n (by decide)]; exact h65) (fun k hk => by rw [f1.1 66 (by decide) (by decide) (by decide), pu_up, mt_row_n (by decide)]; exact hg k hk)
    refine ⟨σ2, ?_, (mq.over f1).tr g2⟩
    unfold bX6_fits_43 bX6_fits_91
    have s65 : mt_up σ 57 (22 + 8 * t + 3) (nI i) 65 = σ 65 := by rw [pu_up, mt_row_n (by decide)]
    rw [if_neg (show ¬ (4096 : Int32) ≤ nI i from nI_ge (b := 4096) (by omega) (by decide)), pu_chkP (pu_in (by omega) (by decide)), pu_bnd, nI_clamp (show 22 + 8 * t + 3 < 2 ^ 31 by omega), m_at4, pu_ask, pu_chkP (pu_in hs (by decide)), nI_clamp (show s < 2 ^ 31 by omega), s65, h65, show (8 : Int32) = nI 8 from rfl, pu_min' l 8 (by omega) (by decide), ← hM, e1, pu_call, nI_1]
    rw [st] at g1
    cases q : fol g (ftV a t i) M
    · rw [q] at g1
      rw [bN_f, if_pos rfl, pu_z]; exact g1
    · rw [q] at g1
      rw [bN_t, if_neg i10', nI_1]; exact g1
theorem e_fits {σ : mt_St} {y : Nat} (hy : y ≤ 40000) (h : RR σ y) (u v : Int32) : EV (fun s => fX5_fits 5000 s u v) (fun s => fX6_fits 5000 s u v) σ y := by
  obtain ⟨⟨a, ha⟩, -⟩ := id h
  obtain ⟨i7, i1⟩ := ha.isT
  have hn8 := ha.1.n8
  cases h1 : okR u 3
  · refine EV.find (w := 0) (by decide) h ?_ ?_
    · show fX5_fits 5000 σ u v = _
      unfold fX5_fits
      rw [x_faultST0 h1, pu_ask, if_neg (by decide), x_find0, pu_call]
    · show fX6_fits 5000 _ u v = _
      unfold fX6_fits
      rw [m_isTreaty, pu_ask, m_lack1 h1, pu_ask, if_neg (by decide), m_find0, pu_call]
  obtain ⟨s, hs, rfl⟩ := okR_nI (m := 3) (by decide) h1
  obtain ⟨g1, g2, g3, g4, n, hn, en⟩ := h.2.2.2.1 s (by omega)
  by_cases h2 : σ (47 + s) 0 = 0
  · refine EV.find (w := 5) (by decide) h ?_ ?_
    · show fX5_fits 5000 σ (nI s) v = _
      unfold fX5_fits
      rw [x_faultST h1 (by omega), pu_ask, if_pos h2, if_neg (by decide), x_find5, pu_call]
    · show fX6_fits 5000 _ (nI s) v = _
      unfold fX6_fits
      rw [m_isTreaty, pu_ask, m_lack3 _ h1 (by omega), pu_ask, x_fs_n (show 64 ≠ 55 by decide), g1, if_pos h2, if_neg (by decide), m_find5, pu_call]
  cases h3 : okR v (nI (nA a) - 1)
  · refine EV.find (w := 0) (by decide) h ?_ ?_
    · show fX5_fits 5000 σ (nI s) v = _
      unfold fX5_fits
      rw [x_faultST h1 (by omega), pu_ask, if_neg h2, i7, h3, if_neg (show ¬ false = true by decide), if_neg (by decide), x_find0, pu_call]
    · show fX6_fits 5000 _ (nI s) v = _
      unfold fX6_fits
      rw [m_isTreaty, pu_ask, m_lack3 _ h1 (by omega), pu_ask, x_fs_n (show 64 ≠ 55 by decide), g1, if_neg h2, x_fs_n (show 57 ≠ 55 by decide), i1, h3, if_neg (show ¬ false = true by decide), if_neg (by decide), m_find0, pu_call]
  obtain ⟨t, ht, rfl⟩ := okT ha.1.n8 h3
  obtain ⟨m, hm, t1, t2⟩ := x_told (σ := σ) (c := 47 + s) (l := n) (M := min n 8) (N := 8) (g := σ (51 + s)) hn rfl (by omega) en (fun k hk => by rw [show 47 + s + 4 = 51 + s by omega])
  have hM : ∀ V, fol (σ (51 + s)) V (min n 8) = fol (σ (51 + s)) V m := fun V => by
    have := fol_any (g := σ (51 + s)) (V := V) (min n 8 - m) m (fun k p q => t2 k p (by omega))
    rw [show m + (min n 8 - m) = min n 8 by omega] at this
    exact this
  obtain ⟨f, e1, u1⟩ := x_fore (m := m) (by omega) hy ha.1 ha.2.1
  have s1 : SX a (mt_row σ 38 f) 1 := ha.2.1.same hn8 (fun c p q => mt_row_n (by omega))
  obtain ⟨W, f2, w1, w2, w3⟩ := x_weigh (n := m) hy (by omega) ha.1 ht s1 (fun k hk => by rw [mt_row_s]; exact u1 k hk)
  have s2 : SX a (mt_row (mt_row σ 38 f) 37 f2) 1 := s1.same hn8 (fun c p q => mt_row_n (by omega))
  obtain ⟨l, e2⟩ := x_fitLoop (s := s) (l := n) (m := m) (W := W) (g := σ (51 + s)) (by omega) hn (by omega) w1 ha.1 ht (W + 1) 0 5000 (mt_row (mt_row σ 38 f) 37 f2) (by omega) (by omega) s2 (fun k hk => by rw [mt_row_n (by decide), mt_row_s]; exact u1 k hk) (by rw [mt_row_n (by omega), mt_row_n (by omega)]; exact en) (fun k hk => by rw [mt_row_n (by omega), mt_row_n (by omega)])
  rw [pu_row_row] at e2
  have cc : ∀ c, 45 ≤ c → mt_row (mt_row σ 38 f) 37 l c = σ c := fun c hc => by rw [mt_row_n (by omega), mt_row_n (by omega)]
  obtain ⟨σ2, e3, f3⟩ := m_fitLoop (s := s) (l := n) (M := min n 8) (g := σ (51 + s)) (mk := σ 57 (22 + 8 * t + 3)) (by omega) hn rfl hy ha.1 ht 4096 0 5000 (mt_row (mt_row σ 38 f) 37 l) (by omega) (by omega) ⟨σ 57 (22 + 8 * t + 3), by rw [cc 57 (by decide), upd_at]; exact ha.2.2⟩ (by rw [cc 65 (by decide), g2, en]) (fun k hk => by rw [cc 66 (by decide)]; exact g3 k hk)
  have hself : mt_row (mt_row (mt_row σ 38 f) 37 l) 57 (upd (mt_row (mt_row σ 38 f) 37 l 57) (22 + 8 * t + 3) (σ 57 (22 + 8 * t + 3))) = mt_row (mt_row σ 38 f) 37 l := by
    rw [cc 57 (by decide), upd_at, ← cc 57 (by decide), mt_row_same]
  rw [hself] at f3
  have eq : sumN (fun i => (fol (σ (51 + s)) (ftV a t i) (min n 8)).toNat) 4096 = sumN (fun i => if i &&& W = i then (fol (σ (51 + s)) (ftV a t i) m).toNat else 0) (W + 1) * 2 ^ (12 - cnt W) := by
    rw [sumN_cg 4096 (fun i _ => by rw [hM])]
    exact cnt_W w1 (fun i => (fol (σ (51 + s)) (ftV a t i) m).toNat) (fun i hi => by
      show (fol (σ (51 + s)) (ftV a t i) m).toNat = (fol (σ (51 + s)) (ftV a t (i &&& W)) m).toNat
      rw [fol_cg m (fun k hk => w3 i hi k hk)])
  rw [eq] at e3
  refine EV.quiet (r := nI (sumN (fun i => if i &&& W = i then (fol (σ (51 + s)) (ftV a t i) m).toNat else 0) (W + 1) * 2 ^ (12 - cnt W))) h (σ1 := mt_row (mt_row σ 38 f) 37 l) (σ2 := σ2) ?_ ?_ ((quiet.row (by omega)).tr (quiet.row (by omega))) f3.quiet
  · show fX5_fits 5000 σ (nI s) (nI t) = _
    unfold fX5_fits
    rw [x_faultST h1 (by omega), pu_ask, if_neg h2, i7, h3, if_pos rfl, if_pos (by decide), pu_chkP (pu_in (show s < 4 by omega) (by decide)), nI_clamp (by omega), show 46 + 1 + s = 47 + s by omega, show (8 : Int32) = nI 8 from rfl, t1, pu_ask, e1, pu_call, w2, pu_call]
    exact e2
  · show fX6_fits 5000 _ (nI s) (nI t) = _
    unfold fX6_fits
    rw [m_isTreaty, pu_ask, m_lack3 _ h1 (by omega), pu_ask, cc 64 (by decide), g1, if_neg h2, cc 57 (by decide), i1, h3, if_pos rfl, if_pos rfl, m_at3, pu_ask, pu_chkP (pu_in (by omega) (by decide)), nI_clamp (by omega)]
    exact e3
