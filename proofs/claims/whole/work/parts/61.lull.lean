/-! lull: the reference -/
theorem mskE_d : ∀ d : Nat, d < 4096 → (pc (nI d) ≤ (if nI d &&& 2048 = 0 then (2 : Int32) else 0) ↔ (pc (nI d &&& 2048) ≤ 0 ∧ pc (nI d) ≤ 2)) := all4096 (by decide +kernel)
def mskE (s : Nat) (e : Int32) : Int32 := if 12 ≤ e then e else if ((nI s >>> (e &&& 31)) &&& (1 : Int32)) = 1 then 12 else e
theorem mskE_n {s e : Nat} (hs : s < 4096) (he : e ≤ 12) : mskE s (nI e) = nI (mskN s e) := by
  unfold mskE mskN
  by_cases h : e < 12
  · rw [if_neg (show ¬ (12 : Int32) ≤ nI e from nI_ge (b := 12) h (by decide)), if_pos h]
    by_cases q : s.testBit e = true
    · rw [if_pos ((m_bit s hs e h).mpr q), if_pos q]; rfl
    · rw [if_neg (fun z => q ((m_bit s hs e h).mp z)), if_neg q]
  · rw [if_pos (show (12 : Int32) ≤ nI e from nI_le (a := 12) (by omega) (by omega)), if_neg h]
theorem mskN_le {s e : Nat} (he : e ≤ 12) : mskN s e ≤ 12 := by
  unfold mskN
  split
  · split <;> omega
  · exact he
def lulJ (a : AW) (s i : Nat) : AW := fun c => if c = 0 then upd (a 0) 1 (a 0 1 &&& (nI s ^^^ (-1 : Int32))) else if c = 1 then (fun k => if k < i then mskE s (a 1 k) else a 1 k) else a c
def lulA (a : AW) (s : Nat) : AW := lulJ a s 6
theorem lulJ_0 (a : AW) (s i : Nat) : lulJ a s i 0 = upd (a 0) 1 (a 0 1 &&& (nI s ^^^ (-1 : Int32))) := rfl
theorem lulJ_1 (a : AW) (s i : Nat) : lulJ a s i 1 = fun k => if k < i then mskE s (a 1 k) else a 1 k := rfl
theorem lulJ_3 (a : AW) (s i : Nat) : lulJ a s i 3 = a 3 := rfl
theorem lulJ_t (a : AW) (s i t : Nat) : lulJ a s i (4 + t) = a (4 + t) := by unfold lulJ; rw [if_neg (by omega), if_neg (by omega)]
theorem nA_lulJ (a : AW) (s i : Nat) : nA (lulJ a s i) = nA a := rfl
theorem wf_lulJ {a : AW} {y s i : Nat} (hs : s < 4096) (h : wfA a y) : wfA (lulJ a s i) y := by
  obtain ⟨w1, w2, w3, w4, w5, w6, w7, w8⟩ := h
  refine ⟨w1, w2, ps_and w3, w4, w5, fun k hk => ?_, w7, fun t ht => by rw [lulJ_t]; exact w8 t ht⟩
  obtain ⟨e, he, ee⟩ := w6 k hk
  rw [lulJ_1]
  show ∃ e, e ≤ 12 ∧ (if k < i then mskE s (a 1 k) else a 1 k) = nI e
  rw [ee]
  by_cases q : k < i
  · rw [if_pos q, mskE_n hs he]; exact ⟨_, mskN_le he, rfl⟩
  · rw [if_neg q]; exact ⟨e, he, rfl⟩
theorem lul_step {c d : AW} {y s : Nat} (hy : y < 2 ^ 30) (hs : s < 4096) (hc : wfA c y) (h1 : d 0 1 = c 0 1 &&& (nI s ^^^ (-1 : Int32))) (h4 : d 0 4 = c 0 4) (hl : ∀ k, k < 6 → d 1 k = mskE s (c 1 k)) : upA d = upA c &&& (nI s ^^^ (-1 : Int32)) := by
  obtain ⟨z, hz, ez⟩ := hc.2.2.2.2.1
  obtain ⟨j, hj, ej⟩ := hc.2.2.1
  obtain ⟨e, he, ee⟩ := hc.2.2.2.2.2.1 (z % 6) (by omega)
  have ec : evA c = nI e := by unfold evA; rw [ez, pu_y6 (by omega), nI_clamp (by omega)]; exact ee
  have ed : evA d = nI (mskN s e) := by unfold evA; rw [h4, ez, pu_y6 (by omega), nI_clamp (by omega), hl _ (by omega), ee, mskE_n hs he]
  unfold upA
  rw [ec, ed, h1, ej, dif_n hj, (tog_n (dif_lt hj) (mskN_le he)).1, togN_dif, (tog_n hj he).1, dif_n (tog_n hj he).2]
theorem lul_up {a : AW} {y s : Nat} (hy : y ≤ 40000) (hs : s < 4096) (hw : wfA a y) : ∀ k, k ≤ 60 → yrs k (lulA a s) 0 1 = yrs k a 0 1 &&& (nI s ^^^ (-1 : Int32)) ∧ yrs k (lulA a s) 0 4 = yrs k a 0 4 ∧ upA (yrs k (lulA a s)) = upA (yrs k a) &&& (nI s ^^^ (-1 : Int32)) := by
  intro k
  have hl : ∀ k j, j < 6 → yrs k (lulA a s) 1 j = mskE s (yrs k a 1 j) := fun k j hj => by
    rw [yrs_1, yrs_1]
    show (if j < 6 then mskE s (a 1 j) else a 1 j) = _
    rw [if_pos hj]
  induction k with
  | zero =>
    intro _
    exact ⟨rfl, rfl, lul_step (y := y) (by omega) hs hw rfl rfl (hl 0)⟩
  | succ k ih =>
    intro hk
    obtain ⟨i1, i2, i3⟩ := ih (by omega)
    have e1 : yrs (k + 1) (lulA a s) 0 1 = yrs (k + 1) a 0 1 &&& (nI s ^^^ (-1 : Int32)) := by rw [yrs_01, yrs_01, i3]
    have e4 : yrs (k + 1) (lulA a s) 0 4 = yrs (k + 1) a 0 4 := by rw [yrs_04, yrs_04, i2]
    exact ⟨e1, e4, lul_step (y := y + (k + 1)) (by omega) hs (wf_yrs (k + 1) (by omega) hw) e1 e4 (hl (k + 1))⟩
def nb (b : AW) : Nat → Bool
  | 0 => true
  | k + 1 => nb b k && decide (brkA (yrs k b) = 0)
theorem nb_all (b : AW) : ∀ m, nb b m = true ↔ ∀ k, k < m → brkA (yrs k b) = 0 := by
  intro m
  induction m with
  | zero => exact ⟨fun _ k hk => absurd hk (by omega), fun _ => rfl⟩
  | succ m ih =>
    show (nb b m && decide (brkA (yrs m b) = 0)) = true ↔ _
    rw [Bool.and_eq_true, ih, decide_eq_true_eq]
    constructor
    · intro h k hk
      by_cases q : k = m
      · rw [q]; exact h.2
      · exact h.1 k (by omega)
    · intro h
      exact ⟨fun k hk => h k (by omega), h m (by omega)⟩
theorem brk1_01 (T : Nat → Int32) (up : Int32) : brk1 T up = 0 ∨ brk1 T up = 1 := by
  unfold brk1
  split
  · exact Or.inl rfl
  · split
    · exact Or.inl rfl
    · exact Or.inr rfl
theorem brkF_n (a : AW) (up : Int32) : ∀ n, ∃ q, q ≤ n ∧ brkF a up n = nI q ∧ (q = 0 ↔ ∀ t, t < n → brk1 (a (4 + t)) up = 0) := by
  intro n
  induction n with
  | zero => exact ⟨0, by omega, rfl, fun _ t ht => absurd ht (by omega), fun _ => rfl⟩
  | succ n ih =>
    obtain ⟨q, hq, eq, hz⟩ := ih
    have e : brkF a up (n + 1) = brkF a up n + brk1 (a (4 + n)) up := rfl
    rcases brk1_01 (a (4 + n)) up with h | h
    · refine ⟨q, by omega, by rw [e, h, pu_z, eq], fun z t ht => ?_, fun z => hz.mpr (fun t ht => z t (by omega))⟩
      by_cases w : t = n
      · rw [w]; exact h
      · exact hz.mp z t (by omega)
    · refine ⟨q + 1, by omega, by rw [e, h, eq, nI_1], fun z => by omega, fun z => ?_⟩
      have := z n (by omega)
      rw [h] at this
      exact absurd this (by decide)
theorem brkA_0 {a : AW} (hn : nA a ≤ 8) : brkA a = 0 ↔ ∀ t, t < nA a → brk1 (a (4 + t)) (upA a) = 0 := by
  obtain ⟨q, hq, eq, hz⟩ := brkF_n a (upA a) (nA a)
  unfold brkA
  rw [eq, ← hz]
  exact ⟨fun e => nI_inj (i := q) (t := 0) (by omega) (by omega) e, fun e => by rw [e]; rfl⟩
theorem bears_ge (T : Nat → Int32) (up : Int32) : 0 ≤ bearsT T up := by
  unfold bearsT
  repeat' split
  all_goals decide
theorem pc_0 : pc 0 = 0 := by decide
theorem ps_a0 {x : Int32} (h : ps_S x) : x &&& 0 = 0 := by
  obtain ⟨j, hj, rfl⟩ := h
  rw [show (0 : Int32) = nI 0 from rfl, sx_and, Nat.and_zero]
theorem live_nb {T : Nat → Int32} {up yard : Int32} (hT : ps_S (T 3)) (h : brk1 T up = 0) : liveT T up yard = liveT T 0 yard := by
  unfold brk1 at h
  unfold liveT
  by_cases h4 : T 4 = 0
  · rw [if_pos h4, if_pos h4]
  · rw [if_neg h4] at h
    rw [if_neg h4, if_neg h4]
    by_cases q : pc (T 3 &&& up) ≤ bearsT T up
    · rw [if_pos q, if_pos (by rw [ps_a0 hT, pc_0]; exact bears_ge T 0)]
    · rw [if_neg q] at h
      exact absurd h (by decide)
/-- a life with all asleep -/
def lvZ (a : AW) (T : Nat → Int32) : Nat → Nat → Int32
  | 0 => T
  | k + 1 => liveT (lvZ a T k) 0 (a 0 0)
theorem lvZ_wf {a : AW} {y : Nat} {T : Nat → Int32} (hw : wfA a y) (hT : wfT T) : ∀ k, wfT (lvZ a T k) := by
  intro k
  induction k with
  | zero => exact hT
  | succ k ih => exact wfT_live ih _ hw.2.1
theorem lul_T {a : AW} {y s : Nat} (hw : wfA a y) : ∀ k, (∀ j, j < k → brkA (yrs j (lulA a s)) = 0) → ∀ t, t < nA a → yrs k (lulA a s) (4 + t) = lvZ a (a (4 + t)) k := by
  intro k
  induction k with
  | zero => intro _ t ht; exact lulJ_t a s 6 t
  | succ k ih =>
    intro hb t ht
    have e := ih (fun j hj => hb j (by omega)) t ht
    have hn : nA (yrs k (lulA a s)) = nA a := by rw [nA_yrs]; rfl
    have hz := (brkA_0 (by rw [hn]; exact hw.n8)).mp (hb k (by omega)) t (by rw [hn]; exact ht)
    show passA (yrs k (lulA a s)) (4 + t) = liveT (lvZ a (a (4 + t)) k) 0 (a 0 0)
    rw [passA_t _ (by rw [hn]; exact ht), yrs_00]
    rw [e] at hz ⊢
    exact live_nb (lvZ_wf hw (hw.2.2.2.2.2.2.2 t ht) k).2.2.2.2.1 hz
def okk (a : AW) (s t : Nat) : Nat → Bool
  | 0 => true
  | k + 1 => okk a s t k && decide (brk1 (lvZ a (a (4 + t)) k) (upA (yrs k a) &&& (nI s ^^^ (-1 : Int32))) = 0)
def okA (a : AW) (m s : Nat) : Nat → Bool
  | 0 => true
  | t + 1 => okA a m s t && okk a s t m
theorem okk_all (a : AW) (s t : Nat) : ∀ m, okk a s t m = true ↔ ∀ k, k < m → brk1 (lvZ a (a (4 + t)) k) (upA (yrs k a) &&& (nI s ^^^ (-1 : Int32))) = 0 := by
  intro m
  induction m with
  | zero => exact ⟨fun _ k hk => absurd hk (by omega), fun _ => rfl⟩
  | succ m ih =>
    show (okk a s t m && decide _) = true ↔ _
    rw [Bool.and_eq_true, ih, decide_eq_true_eq]
    constructor
    · intro h k hk
      by_cases q : k = m
      · rw [q]; exact h.2
      · exact h.1 k (by omega)
    · intro h
      exact ⟨fun k hk => h k (by omega), h m (by omega)⟩
theorem okA_all (a : AW) (m s : Nat) : ∀ n, okA a m s n = true ↔ ∀ t, t < n → okk a s t m = true := by
  intro n
  induction n with
  | zero => exact ⟨fun _ k hk => absurd hk (by omega), fun _ => rfl⟩
  | succ n ih =>
    show (okA a m s n && okk a s n m) = true ↔ _
    rw [Bool.and_eq_true, ih]
    constructor
    · intro h k hk
      by_cases q : k = n
      · rw [q]; exact h.2
      · exact h.1 k (by omega)
    · intro h
      exact ⟨fun k hk => h k (by omega), h n (by omega)⟩
theorem lul_eq {a : AW} {y s m : Nat} (hy : y ≤ 40000) (hs : s < 4096) (hm : m ≤ 12) (hw : wfA a y) : nb (lulA a s) m = okA a m s (nA a) := by
  have hn : ∀ k, nA (yrs k (lulA a s)) = nA a := fun k => by rw [nA_yrs]; rfl
  rw [Bool.eq_iff_iff, nb_all, okA_all]
  constructor
  · intro h t ht
    rw [okk_all]
    intro k hk
    have hz := (brkA_0 (by rw [hn]; exact hw.n8)).mp (h k hk) t (by rw [hn]; exact ht)
    rw [lul_T hw k (fun j hj => h j (by omega)) t ht, (lul_up hy hs hw k (by omega)).2.2] at hz
    exact hz
  · intro h
    have : ∀ j k, k < j → j ≤ m → brkA (yrs k (lulA a s)) = 0 := by
      intro j
      induction j with
      | zero => intro k hk _; omega
      | succ j ih =>
        intro k hk hj
        by_cases q : k = j
        · subst q
          refine (brkA_0 (by rw [hn]; exact hw.n8)).mpr (fun t ht => ?_)
          rw [hn] at ht
          rw [lul_T hw k (fun i hi => ih i hi (by omega)) t ht, (lul_up hy hs hw k (by omega)).2.2]
          exact (okk_all a s t m).mp (h t ht) k (by omega)
        · exact ih k (by omega) (by omega)
    exact fun k hk => this m k hk (Nat.le_refl _)
theorem m_lulFin {s0 : mt_St} (hs : ∀ k, k < 86 → s0 59 k = s0 57 k) (σ : mt_St) (h : frM s0 σ) : ∃ σ', bX6_isLulled_108 5000 σ = some (bN (decide (σ 56 5 = 0)), σ') ∧ (∀ c, c ≠ 56 → c ≠ 57 → σ' c = s0 c) ∧ (∀ k, k ≠ 5 → σ' 56 k = s0 56 k) ∧ ∀ k, k < 86 → σ' 57 k = s0 57 k := by
  obtain ⟨q, e1, e2⟩ := m_copy (a1 := 59) (a2 := 57) (by decide) σ
  refine ⟨mt_row σ 57 q, ?_, fun c p s => by rw [mt_row_n s, h.1 c s p], fun k hk => by rw [mt_row_n (by decide), h.2 k hk], fun k hk => by rw [mt_row_s, e2 k hk, h.1 59 (by decide) (by decide), hs k hk]⟩
  unfold bX6_isLulled_108 bX6_isLulled_131
  rw [e1, pu_call, mt_row_n (show 56 ≠ 57 by decide)]
  by_cases z : σ 56 5 = 0
  · rw [if_pos z, decide_eq_true z]; rfl
  · rw [if_neg z, decide_eq_false z]; rfl
theorem m_lulYears {b : AW} {y m : Nat} {s0 : mt_St} (hm : m ≤ 12) (hy : y ≤ 40000) (hw : wfA b y) (hs : ∀ k, k < 86 → s0 59 k = s0 57 k) : ∀ (d i fuel : Nat) (σ : mt_St), m = i + d → d + 1 < fuel → nb b i = true → SM (yrs i b) (σ 57) → σ 56 5 = 0 → frM s0 σ → ∃ σ', bX6_isLulled_86 5000 fuel σ (nI m) (nI i) = some (bN (nb b m), σ') ∧ (∀ c, c ≠ 56 → c ≠ 57 → σ' c = s0 c) ∧ (∀ k, k ≠ 5 → σ' 56 k = s0 56 k) ∧ ∀ k, k < 86 → σ' 57 k = s0 57 k := by
  intro d
  induction d with
  | zero =>
    intro i fuel σ hd hf hb h h5 hfr
    obtain ⟨fuel, rfl⟩ : ∃ q, fuel = q + 1 := ⟨fuel - 1, by omega⟩
    have : i = m := by omega
    subst this
    obtain ⟨σ', f1, f2⟩ := m_lulFin hs σ hfr
    unfold bX6_isLulled_86
    rw [if_pos (nI_le (Nat.le_refl _) (by omega)), f1, hb, decide_eq_true h5]
    exact ⟨σ', rfl, f2⟩
  | succ d ih =>
    intro i fuel σ hd hf hb h h5 hfr
    obtain ⟨fuel, rfl⟩ : ∃ q, fuel = q + 1 := ⟨fuel - 1, by omega⟩
    obtain ⟨σ1, p1, p2, p3, p4⟩ := m_year (a := yrs i b) (y := y + i) (σ := σ) (by omega) (wf_yrs i (by omega) hw) h
    have e5 : σ1 56 5 = brkA (yrs i b) := by rw [p4, h5, Int32.zero_add]
    have stp : bX6_isLulled_86 5000 (fuel + 1) σ (nI m) (nI i) = bX6_isLulled_86 5000 fuel σ1 (nI m) (nI (i + 1)) := by
      conv => lhs; unfold bX6_isLulled_86
      rw [if_neg (nI_ge (by omega) (by omega)), if_pos h5, p1, pu_call, nI_1]
    rw [stp]
    by_cases z : brkA (yrs i b) = 0
    · exact ih (i + 1) fuel σ1 (by omega) (by omega) (by show (nb b i && decide (brkA (yrs i b) = 0)) = true; rw [hb, decide_eq_true z]; rfl) p2 (by rw [e5]; exact z) (hfr.tr p3)
    · obtain ⟨fuel, rfl⟩ : ∃ q, fuel = q + 1 := ⟨fuel - 1, by omega⟩
      obtain ⟨σ', f1, f2⟩ := m_lulFin hs σ1 (hfr.tr p3)
      have nf : nb b m = false := by
        cases q : nb b m
        · rfl
        · exact absurd ((nb_all b m).mp q i (by omega)) z
      unfold bX6_isLulled_86
      rw [f1, e5, decide_eq_false z, nf, if_neg z]
      refine ⟨σ', ?_, f2⟩
      split <;> rfl
theorem m_isLulled {a : AW} {y m s : Nat} {σ : mt_St} (hm : m ≤ 12) (hy : y ≤ 40000) (hs : s < 4096) (hw : wfA a y) (h : SM a (σ 57)) : ∃ σ', fX6_isLulled 5000 σ (nI s) (nI m) = some (bN (nb (lulA a s) m), σ') ∧ mq σ σ' := by
  have hn8 := hw.n8
  obtain ⟨r, c1, c2⟩ := m_copy (a1 := 57) (a2 := 59) (by decide) σ
  have hs0 : ∀ k, k < 86 → mt_row σ 59 r 59 k = mt_row σ 59 r 57 k := fun k hk => by rw [mt_row_s, mt_row_n (by decide)]; exact c2 k hk
  have lp : ∀ (d i fuel : Nat) (τ : mt_St), 6 = i + d → d < fuel → SM (lulJ a s i) (τ 57) → frM (mt_row σ 59 r) τ → ∃ σ', bX6_isLulled_25 5000 fuel τ (nI s) (nI m) (nI i) = some (bN (nb (lulA a s) m), σ') ∧ (∀ c, c ≠ 56 → c ≠ 57 → σ' c = mt_row σ 59 r c) ∧ (∀ k, k ≠ 5 → σ' 56 k = mt_row σ 59 r 56 k) ∧ ∀ k, k < 86 → σ' 57 k = mt_row σ 59 r 57 k := by
    intro d
    induction d with
    | zero =>
      intro i fuel τ hd hf ht hfr
      obtain ⟨fuel, rfl⟩ : ∃ q, fuel = q + 1 := ⟨fuel - 1, by omega⟩
      have : i = 6 := by omega
      subst this
      unfold bX6_isLulled_25
      rw [if_pos (by decide), pu_bnd]
      exact m_lulYears (b := lulA a s) hm hy (wf_lulJ hs hw) hs0 m 0 5000 (mt_up τ 56 5 0) (by omega) (by omega) rfl (by rw [pu_up, mt_row_n (by decide)]; exact ht) (by rw [pu_up, mt_row_s, pu_upd_s]) ⟨fun c p q => by rw [pu_up, mt_row_n q]; exact hfr.1 c p q, fun k hk => by rw [pu_up, mt_row_s, pu_upd_n hk]; exact hfr.2 k hk⟩
    | succ d ih =>
      intro i fuel τ hd hf ht hfr
      obtain ⟨fuel, rfl⟩ : ∃ q, fuel = q + 1 := ⟨fuel - 1, by omega⟩
      obtain ⟨⟨e0, e1, e3, e4, e5, e7⟩, hl, hsp, htt⟩ := id ht
      have hi : τ 57 (6 + i) = a 1 i := by
        rw [hl i (by omega)]
        show (if i < i then mskE s (a 1 i) else a 1 i) = _
        rw [if_neg (by omega)]
      have next : ∀ x, x = mskE s (a 1 i) → SM (lulJ a s (i + 1)) (upd (τ 57) (6 + i) x) := by
        intro x hx
        refine ⟨?_, fun k hk => ?_, fun k hk => ?_, fun t htn k hk => ?_⟩
        · rw [pu_upd_n (by omega), pu_upd_n (by omega), pu_upd_n (by omega), pu_upd_n (by omega), pu_upd_n (by omega), pu_upd_n (by omega)]
          exact ⟨e0, e1, e3, e4, e5, e7⟩
        · show _ = if k < i + 1 then mskE s (a 1 k) else a 1 k
          by_cases q : k = i
          · subst q; rw [pu_upd_s, if_pos (by omega), hx]
          · rw [pu_upd_n (by omega), hl k hk]
            show (if k < i then mskE s (a 1 k) else a 1 k) = _
            by_cases z : k < i
            · rw [if_pos z, if_pos (by omega)]
            · rw [if_neg z, if_neg (by omega)]
        · rw [pu_upd_n (by omega)]; exact hsp k hk
        · show upd (τ 57) (6 + i) x (22 + 8 * t + k) = _
          rw [pu_upd_n (by omega)]
          have := htt t htn k hk
          rw [lulJ_t] at this ⊢
          exact this
      unfold bX6_isLulled_25 bX6_isLulled_73
      rw [if_neg (show ¬ (6 : Int32) ≤ nI i from nI_ge (b := 6) (by omega) (by decide)), show (6 : Int32) + nI i = nI (6 + i) from nI_add 6 i, pu_chkP (pu_in (by omega) (by decide)), pu_chkP (pu_in (by omega) (by decide)), pu_chkP (pu_in (by omega) (by decide)), nI_clamp (by omega), hi, nI_1]
      have same : (mskE s (a 1 i) = a 1 i) → SM (lulJ a s (i + 1)) (τ 57) := fun q => by
        have := next (a 1 i) q.symm
        rw [← hi, upd_at] at this
        exact this
      by_cases q1 : 12 ≤ a 1 i
      · rw [if_pos q1]
        exact ih (i + 1) fuel τ (by omega) (by omega) (same (by unfold mskE; rw [if_pos q1])) hfr
      · rw [if_neg q1]
        by_cases q2 : ((nI s >>> (a 1 i &&& 31)) &&& (1 : Int32)) = 1
        · rw [if_pos q2, pu_bnd]
          refine ih (i + 1) fuel (mt_up τ 57 (6 + i) 12) (by omega) (by omega) ?_ (hfr.tr frM.row)
          rw [pu_up, mt_row_s]
          exact next 12 (by unfold mskE; rw [if_neg q1, if_pos q2])
        · rw [if_neg q2]
          exact ih (i + 1) fuel τ (by omega) (by omega) (same (by unfold mskE; rw [if_neg q1, if_neg q2])) hfr
  have start : SM (lulJ a s 0) (mt_up (mt_row σ 59 r) 57 5 (a 0 1 &&& (nI s ^^^ (-1 : Int32))) 57) := by
    obtain ⟨⟨e0, e1, e3, e4, e5, e7⟩, hl, hsp, htt⟩ := id h
    rw [pu_up, mt_row_s, mt_row_n (show 57 ≠ 59 by decide)]
    refine ⟨⟨e0, rfl, e3, e4, e5, e7⟩, fun k hk => ?_, fun k hk => ?_, fun t htn k hk => ?_⟩
    · rw [pu_upd_n (by omega)]
      show _ = if k < 0 then mskE s (a 1 k) else a 1 k
      rw [if_neg (by omega)]; exact hl k hk
    · rw [pu_upd_n (by omega)]; exact hsp k hk
    · show upd (σ 57) 5 _ (22 + 8 * t + k) = _
      rw [pu_upd_n (by omega), lulJ_t]; exact htt t htn k hk
  obtain ⟨σ', g1, g2, g3, g4⟩ := lp 6 0 5000 (mt_up (mt_row σ 59 r) 57 5 (a 0 1 &&& (nI s ^^^ (-1 : Int32)))) (by omega) (by omega) start frM.row
  refine ⟨σ', ?_, fun c p q s => by rw [g2 c p q, mt_row_n s], fun k hk => by rw [g3 k hk, mt_row_n (by decide)], fun k hk => by rw [g4 k hk, mt_row_n (by decide)]⟩
  unfold fX6_isLulled
  rw [c1, pu_call, pu_bnd, mt_row_n (show 57 ≠ 59 by decide), h.1.2.1]
  exact g1
theorem stA_n0 {Q : Nat → Bool} {c : Nat → Nat} {i : Nat} (q : Q i = false) : stA Q c i none = none := by unfold stA; simp [q]
theorem stA_n1 {Q : Nat → Bool} {c : Nat → Nat} {i : Nat} (q : Q i = true) : stA Q c i none = some i := by unfold stA; simp [q]
theorem stA_k {Q : Nat → Bool} {c : Nat → Nat} {i k : Nat} (w : c k ≤ c i) : stA Q c i (some k) = some k := by unfold stA; simp [w]
theorem stA_s0 {Q : Nat → Bool} {c : Nat → Nat} {i k : Nat} (q : Q i = false) : stA Q c i (some k) = some k := by unfold stA; simp [q]
theorem stA_s1 {Q : Nat → Bool} {c : Nat → Nat} {i k : Nat} (w : ¬ c k ≤ c i) (q : Q i = true) : stA Q c i (some k) = some i := by unfold stA; simp [w, q]
theorem stD_n0 {Q : Nat → Bool} {c : Nat → Nat} {i : Nat} (q : Q i = false) : stD Q c i none = none := by unfold stD; simp [q]
theorem stD_n1 {Q : Nat → Bool} {c : Nat → Nat} {i : Nat} (q : Q i = true) : stD Q c i none = some i := by unfold stD; simp [q]
theorem stD_k {Q : Nat → Bool} {c : Nat → Nat} {i k : Nat} (w : c k < c i) : stD Q c i (some k) = some k := by unfold stD; simp [w]
theorem stD_s0 {Q : Nat → Bool} {c : Nat → Nat} {i k : Nat} (q : Q i = false) : stD Q c i (some k) = some k := by unfold stD; simp [q]
theorem stD_s1 {Q : Nat → Bool} {c : Nat → Nat} {i k : Nat} (w : ¬ c k < c i) (q : Q i = true) : stD Q c i (some k) = some i := by unfold stD; simp [w, q]
theorem m_lullLoop {a : AW} {y m : Nat} {Q : Nat → Bool} (hw : wfA a y) (hQ : ∀ s, s < 4096 → ∀ σ : mt_St, SM a (σ 57) → ∃ σ', fX6_isLulled 5000 σ (nI s) (nI m) = some (bN (Q s), σ') ∧ mq σ σ') : ∀ (i fuel : Nat) (σ : mt_St) (o : Option Nat), i ≤ 4096 → i < fuel → SM a (σ 57) → isB Q cnt i 4096 o → ∃ o' σ', isB Q cnt 0 4096 o' ∧ bX6_lull_23 5000 fuel σ (nI m) (eO o) (nI i - 1) = mt_call (fX6_orNone 5000 σ' (eO o')) (fun r s => some (r, s)) ∧ mq σ σ' := by
  intro i
  induction i with
  | zero =>
    intro fuel σ o hi hf h hb
    obtain ⟨fuel, rfl⟩ : ∃ q, fuel = q + 1 := ⟨fuel - 1, by omega⟩
    refine ⟨o, σ, hb, ?_, mq.rf⟩
    unfold bX6_lull_23
    rw [if_pos (show nI 0 - 1 < 0 by decide)]
  | succ i ih =>
    intro fuel σ o hi hf h hb
    obtain ⟨fuel, rfl⟩ : ∃ q, fuel = q + 1 := ⟨fuel - 1, by omega⟩
    obtain ⟨σ1, l1, l2⟩ := hQ i (by omega) σ h
    have h1 : SM a (σ1 57) := h.same hw.n8 l2.2.2
    have hD := isB_D (show i < 4096 by omega) hb
    unfold bX6_lull_23 bX6_lull_55 bX6_lull_42 bX6_lull_55 bX6_lull_56
    rw [nI_pred, if_neg (nI_pos (by omega)), l1, pu_call, pu_m1]
    cases o with
    | none =>
      rw [show eO none = -1 from rfl, if_pos (by decide)]
      cases q : Q i
      · rw [stD_n0 q] at hD
        obtain ⟨o', σ', g1, g2, g3⟩ := ih fuel σ1 none (by omega) (by omega) h1 hD
        rw [bN_f, if_pos rfl]
        exact ⟨o', σ', g1, g2, l2.tr g3⟩
      · rw [stD_n1 q] at hD
        obtain ⟨o', σ', g1, g2, g3⟩ := ih fuel σ1 (some i) (by omega) (by omega) h1 hD
        rw [bN_t, if_neg i10']
        exact ⟨o', σ', g1, g2, l2.tr g3⟩
    | some k =>
      have hk := isB_lt hb
      have c1 := cnt_12 i
      have c2 := cnt_12 k
      rw [show eO (some k) = nI k from rfl, if_neg (nI_pos (by omega)), ms_bits ⟨i, by omega, rfl⟩, pu_ask, ms_bits ⟨k, by omega, rfl⟩, pu_ask, pc_cnt i (by omega), pc_cnt k (by omega)]
      by_cases w : cnt k < cnt i
      · rw [stD_k w] at hD
        obtain ⟨o', σ', g1, g2, g3⟩ := ih fuel σ (some k) (by omega) (by omega) h hD
        rw [if_pos (nI_lt w (by omega))]
        exact ⟨o', σ', g1, g2, g3⟩
      · rw [if_neg (nI_nlt (by omega) (by omega))]
        cases q : Q i
        · rw [stD_s0 q] at hD
          obtain ⟨o', σ', g1, g2, g3⟩ := ih fuel σ1 (some k) (by omega) (by omega) h1 hD
          rw [bN_f, if_pos rfl]
          exact ⟨o', σ', g1, g2, l2.tr g3⟩
        · rw [stD_s1 w q] at hD
          obtain ⟨o', σ', g1, g2, g3⟩ := ih fuel σ1 (some i) (by omega) (by omega) h1 hD
          rw [bN_t, if_neg i10']
          exact ⟨o', σ', g1, g2, l2.tr g3⟩
