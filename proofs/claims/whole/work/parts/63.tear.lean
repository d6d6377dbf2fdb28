/-! tear -/
theorem cnt_8 : ∀ j : Nat, j < 256 → cnt j ≤ 8 := by decide +kernel
def sumN (f : Nat → Nat) : Nat → Nat
  | 0 => 0
  | n + 1 => sumN f n + f n
theorem sumN_cg {f g : Nat → Nat} : ∀ n, (∀ t, t < n → f t = g t) → sumN f n = sumN g n := by
  intro n
  induction n with
  | zero => intro _; rfl
  | succ n ih =>
    intro h
    unfold sumN
    rw [ih (fun t ht => h t (by omega)), h n (by omega)]
theorem sumN_add (f g : Nat → Nat) : ∀ n, sumN (fun t => f t + g t) n = sumN f n + sumN g n := by
  intro n
  induction n with
  | zero => rfl
  | succ n ih => unfold sumN; rw [ih]; omega
theorem sumN_le {f : Nat → Nat} {b : Nat} : ∀ n, (∀ t, t < n → f t ≤ b) → sumN f n ≤ b * n := by
  intro n
  induction n with
  | zero => intro _; exact Nat.le_refl _
  | succ n ih =>
    intro h
    have h1 := ih (fun t ht => h t (by omega))
    have h2 := h n (by omega)
    unfold sumN
    rw [Nat.mul_succ]
    omega
def gN (T : Nat → Int32) (up : Int32) : Nat := (gainT T up).toNatClampNeg
theorem gN_n {T : Nat → Int32} {up : Int32} (h : ps_S (T 3)) : gainT T up = nI (gN T up) ∧ gN T up ≤ 30 := by
  obtain ⟨q, hq, e⟩ := wfT_gain h up
  unfold gN
  rw [e, nI_clamp (by omega)]
  exact ⟨rfl, hq⟩
def agN (a : AW) (T : Nat → Int32) : Nat → Nat
  | 0 => 0
  | k + 1 => agN a T k + gN (alo a T k) (upA (yrs k a))
theorem agN_n {a : AW} {y : Nat} {T : Nat → Int32} (hw : wfA a y) (hT : wfT T) : ∀ k, alG a T k = nI (agN a T k) ∧ agN a T k ≤ 30 * k := by
  intro k
  induction k with
  | zero => exact ⟨rfl, Nat.le_refl _⟩
  | succ k ih =>
    obtain ⟨e1, e2⟩ := gN_n (up := upA (yrs k a)) (alo_wf hw hT k).2.2.2.2.1
    refine ⟨?_, ?_⟩
    · show alG a T k + gainT (alo a T k) (upA (yrs k a)) = nI (agN a T k + gN (alo a T k) (upA (yrs k a)))
      rw [ih.1, e1, nI_add]
    · show agN a T k + gN (alo a T k) (upA (yrs k a)) ≤ 30 * (k + 1)
      have := ih.2
      omega
theorem gold_n {b : AW} {up : Int32} {g : Nat} (hg : g ≤ 99999) (eg : b 0 3 = nI g) : ∀ t, (∀ s, s < t → ps_S (b (4 + s) 3)) → t ≤ 8 → goldF b up t = nI (min (g + sumN (fun t => gN (b (4 + t)) up) t) 99999) := by
  intro t
  induction t with
  | zero =>
    intro _ _
    show b 0 3 = nI (min (g + 0) 99999)
    rw [eg, Nat.min_eq_left (by omega), Nat.add_zero]
  | succ t ih =>
    intro h ht
    obtain ⟨e1, e2⟩ := gN_n (up := up) (h t (by omega))
    have hS : sumN (fun t => gN (b (4 + t)) up) t ≤ 30 * t := sumN_le t (fun s hs => (gN_n (h s (by omega))).2)
    show mt_min (goldF b up t + gainT (b (4 + t)) up) 99999 = nI (min (g + (sumN (fun t => gN (b (4 + t)) up) t + gN (b (4 + t)) up)) 99999)
    rw [ih (fun s hs => h s (by omega)) (by omega), e1, nI_add, show (99999 : Int32) = nI 99999 from rfl, pu_min _ 99999 (by omega) (by decide)]
    congr 1
    omega
theorem yrs_gold {b : AW} {y g : Nat} (hy : y ≤ 40000) (hw : wfA b y) (hg : g ≤ 99999) (eg : b 0 3 = nI g) : ∀ k, k ≤ 200 → yrs k b 0 3 = nI (min (g + sumN (fun t => agN b (b (4 + t)) k) (nA b)) 99999) := by
  have hn8 := hw.n8
  intro k
  induction k with
  | zero =>
    intro _
    have : sumN (fun t => agN b (b (4 + t)) 0) (nA b) = 0 := by
      have := sumN_le (f := fun t => agN b (b (4 + t)) 0) (b := 0) (nA b) (fun t _ => Nat.le_refl _)
      omega
    rw [this, Nat.add_zero, Nat.min_eq_left hg]
    exact eg
  | succ k ih =>
    intro hk
    have wk := wf_yrs k (show y + k < 2 ^ 30 by omega) hw
    show passA (yrs k b) 0 3 = _
    rw [passA_0, pu_upd_n (by decide), pu_upd_s, nA_yrs]
    rw [gold_n (g := min (g + sumN (fun t => agN b (b (4 + t)) k) (nA b)) 99999) (by omega) (ih (by omega)) (nA b) (fun s hs => (wk.2.2.2.2.2.2.2 s (by rw [nA_yrs]; exact hs)).2.2.2.2.1) hn8]
    have e1 : sumN (fun t => gN (yrs k b (4 + t)) (upA (yrs k b))) (nA b) = sumN (fun t => gN (alo b (b (4 + t)) k) (upA (yrs k b))) (nA b) := sumN_cg _ (fun t ht => by rw [yrs_alo' ht])
    have e2 : sumN (fun t => agN b (b (4 + t)) (k + 1)) (nA b) = sumN (fun t => agN b (b (4 + t)) k) (nA b) + sumN (fun t => gN (alo b (b (4 + t)) k) (upA (yrs k b))) (nA b) := sumN_add _ _ _
    rw [e1, e2]
    congr 1
    omega
theorem alo_cg {a b : AW} {T : Nat → Int32} (h0 : b 0 0 = a 0 0) (hu : ∀ k, upA (yrs k b) = upA (yrs k a)) : ∀ k, alo b T k = alo a T k := by
  intro k
  induction k with
  | zero => rfl
  | succ k ih => show liveT (alo b T k) (upA (yrs k b)) (b 0 0) = liveT (alo a T k) (upA (yrs k a)) (a 0 0); rw [ih, hu, h0]
theorem agN_cg {a b : AW} {T : Nat → Int32} (h0 : b 0 0 = a 0 0) (hu : ∀ k, upA (yrs k b) = upA (yrs k a)) : ∀ k, agN b T k = agN a T k := by
  intro k
  induction k with
  | zero => rfl
  | succ k ih => show agN b T k + gN (alo b T k) (upA (yrs k b)) = agN a T k + gN (alo a T k) (upA (yrs k a)); rw [ih, hu, alo_cg h0 hu]
def tornT (T : Nat → Int32) : Nat → Int32 := upd (upd T 4 0) 6 0
theorem tornT_wf {T : Nat → Int32} (h : wfT T) : wfT (tornT T) := by
  obtain ⟨h0, h1, h2, hne, h3, h4, h5, h6, h7⟩ := h
  exact ⟨h0, h1, h2, hne, h3, Or.inl rfl, h5, ⟨0, by omega, rfl⟩, h7⟩
def trT (a : AW) (s t : Nat) : Nat → Int32 := if s.testBit t = true then tornT (a (4 + t)) else a (4 + t)
theorem trT_wf {a : AW} {y s t : Nat} (hw : wfA a y) (ht : t < nA a) : wfT (trT a s t) := by
  have h := hw.2.2.2.2.2.2.2 t ht
  unfold trT
  split
  · exact tornT_wf h
  · exact h
def trJ (a : AW) (s i : Nat) : AW := fun c => if 4 ≤ c ∧ c < 4 + i then trT a s (c - 4) else a c
theorem trJ_0 (a : AW) (s i : Nat) : trJ a s i 0 = a 0 := by unfold trJ; rw [if_neg (by omega)]
theorem trJ_1 (a : AW) (s i : Nat) : trJ a s i 1 = a 1 := by unfold trJ; rw [if_neg (by omega)]
theorem trJ_3 (a : AW) (s i : Nat) : trJ a s i 3 = a 3 := by unfold trJ; rw [if_neg (by omega)]
theorem trJ_lt (a : AW) {s i t : Nat} (h : t < i) : trJ a s i (4 + t) = trT a s t := by unfold trJ; rw [if_pos (by omega), show 4 + t - 4 = t by omega]
theorem trJ_ge (a : AW) {s i t : Nat} (h : i ≤ t) : trJ a s i (4 + t) = a (4 + t) := by unfold trJ; rw [if_neg (by omega)]
theorem nA_trJ (a : AW) (s i : Nat) : nA (trJ a s i) = nA a := by unfold nA; rw [trJ_0]
theorem trJ_s (a : AW) (s i : Nat) : trJ a s (i + 1) = mt_row (trJ a s i) (4 + i) (trT a s i) := by
  funext c
  by_cases h : c = 4 + i
  · subst h; rw [mt_row_s, trJ_lt a (by omega)]
  · rw [mt_row_n h]
    unfold trJ
    by_cases q : 4 ≤ c ∧ c < 4 + i
    · rw [if_pos q, if_pos (by omega)]
    · rw [if_neg q, if_neg (by omega)]
theorem trJ_z (a : AW) (s : Nat) : trJ a s 0 = a := by
  funext c; unfold trJ; rw [if_neg (by omega)]
theorem wf_trJ {a : AW} {y s i : Nat} (h : wfA a y) : wfA (trJ a s i) y := by
  obtain ⟨w1, w2, w3, w4, w5, w6, w7, w8⟩ := id h
  unfold wfA
  rw [nA_trJ, trJ_0, trJ_1, trJ_3]
  refine ⟨w1, w2, w3, w4, w5, w6, w7, fun t ht => ?_⟩
  by_cases q : t < i
  · rw [trJ_lt a q]; exact trT_wf h ht
  · rw [trJ_ge a (by omega)]; exact w8 t ht
def gtN (a : AW) (g m s : Nat) : Nat := min (g + sumN (fun t => agN a (trT a s t) m) (nA a)) 99999
theorem m_goldTorn {a : AW} {y m s g : Nat} {σ : mt_St} (hm : m ≤ 20) (hy : y ≤ 40000) (hs : s < 256) (hg : g ≤ 99999) (eg : a 0 3 = nI g) (hw : wfA a y) (h : SM a (σ 57)) : ∃ σ', fX6_goldTorn 5000 σ (nI s) (nI m) = some (nI (gtN a g m s), σ') ∧ mq σ σ' := by
  have hn8 := hw.n8
  obtain ⟨r, c1, c2⟩ := m_copy (a1 := 57) (a2 := 59) (by decide) σ
  have lp : ∀ (d i fuel : Nat) (τ : mt_St), nA a = i + d → d < fuel → SM (trJ a s i) (τ 57) → frM (mt_row σ 59 r) τ → ∃ σ', bX6_goldTorn_13 5000 fuel τ (nI s) (nI m) (nI i) = some (nI (gtN a g m s), σ') ∧ mq σ σ' := by
    intro d
    induction d with
    | zero =>
      intro i fuel τ hd hf ht hfr
      obtain ⟨fuel, rfl⟩ : ∃ q, fuel = q + 1 := ⟨fuel - 1, by omega⟩
      have : i = nA a := by omega
      subst this
      have wt : wfA (trJ a s (nA a)) y := wf_trJ hw
      obtain ⟨σ1, g1, g2, g3⟩ := m_years (σ := τ) (m := m) (by omega) (by omega) wt ht
      obtain ⟨σ2, b1, b2⟩ := m_back (v := σ1 57 3) c2 (hfr.tr g3)
      refine ⟨σ2, ?_, b2⟩
      have e3 : σ1 57 3 = nI (gtN a g m s) := by
        rw [g2.1.2.2.1, yrs_gold hy wt hg (by rw [trJ_0]; exact eg) m (by omega), nA_trJ]
        have e : sumN (fun t => agN (trJ a s (nA a)) (trJ a s (nA a) (4 + t)) m) (nA a) = sumN (fun t => agN a (trT a s t) m) (nA a) := sumN_cg _ (fun t ht => by
          rw [trJ_lt a ht]
          exact agN_cg (by rw [trJ_0]) (fun k => (yrs_cg (by rw [trJ_0]) (by rw [trJ_0]) (trJ_1 a s (nA a)) k).2.2) m)
        rw [e]
        unfold gtN
        rfl
      unfold bX6_goldTorn_13
      rw [ht.n wt, nA_trJ, if_pos (nI_le (Nat.le_refl _) (by omega)), g1, pu_call, b1, pu_call, e3]
    | succ d ih =>
      intro i fuel τ hd hf ht hfr
      obtain ⟨fuel, rfl⟩ : ∃ q, fuel = q + 1 := ⟨fuel - 1, by omega⟩
      have wt : wfA (trJ a s i) y := wf_trJ hw
      have hi : i < nA (trJ a s i) := by rw [nA_trJ]; omega
      unfold bX6_goldTorn_13 bX6_goldTorn_55
      rw [ht.n wt, nA_trJ, if_neg (nI_ge (by omega) (by omega)), nI_1]
      have hb := m_bit s (by omega) i (by omega)
      by_cases q : s.testBit i = true
      · rw [if_pos (hb.mpr q), m_at4, pu_ask, pu_chkP (pu_in (by omega) (by decide)), pu_bnd, m_at6, pu_ask, pu_chkP (pu_in (by omega) (by decide)), pu_bnd, nI_clamp (by omega), nI_clamp (by omega), pu_up, pu_up, mt_row_s, pu_row_row]
        refine ih (i + 1) fuel _ (by omega) (by omega) ?_ (hfr.tr frM.row)
        rw [mt_row_s, trJ_s]
        have h1 := ht.field (t := i) (k := 4) (v := 0) hi (by decide)
        have h2 := h1.field (t := i) (k := 6) (v := 0) (by rw [nA_treat]; exact hi) (by decide)
        rw [mt_row_s, aw_row2, trJ_ge a (Nat.le_refl i)] at h2
        unfold trT
        rw [if_pos q]
        exact h2
      · rw [if_neg (fun z => q (hb.mp z))]
        refine ih (i + 1) fuel τ (by omega) (by omega) ?_ hfr
        have e : trT a s i = trJ a s i (4 + i) := by rw [trJ_ge a (Nat.le_refl i)]; unfold trT; rw [if_neg q]
        rw [trJ_s, e, aw_same]
        exact ht
  obtain ⟨σ', g1, g2⟩ := lp (nA a) 0 5000 (mt_row σ 59 r) (by omega) (by omega) (by rw [mt_row_n (by decide), trJ_z]; exact h) frM.rf
  refine ⟨σ', ?_, g2⟩
  unfold fX6_goldTorn
  rw [c1, pu_call]
  exact g1
theorem m_tearLoop {a : AW} {y m N : Nat} {v : Int32} {G : Nat → Nat} (hN : N ≤ 256) (hw : wfA a y) (hQ : ∀ s, s < N → ∀ σ : mt_St, SM a (σ 57) → ∃ σ', fX6_goldTorn 5000 σ (nI s) (nI m) = some (nI (G s), σ') ∧ mq σ σ') : ∀ (i fuel : Nat) (σ : mt_St) (o : Option Nat), i ≤ N → i < fuel → SM a (σ 57) → isB (fun s => decide (¬ v < nI (G s))) cnt i N o → ∃ o' σ', isB (fun s => decide (¬ v < nI (G s))) cnt 0 N o' ∧ bX6_tear_41 5000 fuel σ v (nI m) (eO o) (nI i - 1) = mt_call (fX6_orNone 5000 σ' (eO o')) (fun r s => some (r, s)) ∧ mq σ σ' := by
  intro i
  induction i with
  | zero =>
    intro fuel σ o hi hf h hb
    obtain ⟨fuel, rfl⟩ : ∃ q, fuel = q + 1 := ⟨fuel - 1, by omega⟩
    refine ⟨o, σ, hb, ?_, mq.rf⟩
    unfold bX6_tear_41
    rw [if_pos (show nI 0 - 1 < 0 by decide)]
  | succ i ih =>
    intro fuel σ o hi hf h hb
    obtain ⟨fuel, rfl⟩ : ∃ q, fuel = q + 1 := ⟨fuel - 1, by omega⟩
    obtain ⟨σ1, l1, l2⟩ := hQ i (by omega) σ h
    have h1 : SM a (σ1 57) := h.same hw.n8 l2.2.2
    have hD := isB_D (show i < N by omega) hb
    unfold bX6_tear_41 bX6_tear_78 bX6_tear_62 bX6_tear_78 bX6_tear_79
    rw [nI_pred, if_neg (nI_pos (by omega)), l1, pu_call, pu_m1]
    cases o with
    | none =>
      rw [show eO none = -1 from rfl, if_pos (by decide)]
      by_cases q : v < nI (G i)
      · rw [stD_n0 (show decide (¬ v < nI (G i)) = false from decide_eq_false (fun z => z q))] at hD
        obtain ⟨o', σ', g1, g2, g3⟩ := ih fuel σ1 none (by omega) (by omega) h1 hD
        rw [if_pos q]
        exact ⟨o', σ', g1, g2, l2.tr g3⟩
      · rw [stD_n1 (show decide (¬ v < nI (G i)) = true from decide_eq_true q)] at hD
        obtain ⟨o', σ', g1, g2, g3⟩ := ih fuel σ1 (some i) (by omega) (by omega) h1 hD
        rw [if_neg q]
        exact ⟨o', σ', g1, g2, l2.tr g3⟩
    | some k =>
      have hk := isB_lt hb
      have c1 := cnt_12 i
      have c2 := cnt_12 k
      rw [show eO (some k) = nI k from rfl, if_neg (nI_pos (by omega)), ms_bits ⟨i, by omega, rfl⟩, pu_ask, ms_bits ⟨k, by omega, rfl⟩, pu_ask, pc_cnt i (by omega), pc_cnt k (by omega)]
      by_cases w : cnt k < cnt i
      · rw [stD_k w] at hD
        obtain ⟨o', σ', g1, g2, g3⟩ := ih fuel σ (some k) (by omega) (by omega) h hD
        rw [if_pos (nI_lt w (by omega))]
        exact ⟨o', σ', g1, g2, g3⟩
      · rw [if_neg (nI_nlt (by omega) (by omega))]
        by_cases q : v < nI (G i)
        · rw [stD_s0 (show decide (¬ v < nI (G i)) = false from decide_eq_false (fun z => z q))] at hD
          obtain ⟨o', σ', g1, g2, g3⟩ := ih fuel σ1 (some k) (by omega) (by omega) h1 hD
          rw [if_pos q]
          exact ⟨o', σ', g1, g2, l2.tr g3⟩
        · rw [stD_s1 w (show decide (¬ v < nI (G i)) = true from decide_eq_true q)] at hD
          obtain ⟨o', σ', g1, g2, g3⟩ := ih fuel σ1 (some i) (by omega) (by omega) h1 hD
          rw [if_neg q]
          exact ⟨o', σ', g1, g2, l2.tr g3⟩
/-! tear: the class -/
theorem up_up46 (S : mt_St) (g : Nat → Int32) : mt_up (mt_up (mt_row S 37 g) 37 4 0) 37 6 0 = mt_row S 37 (upd (upd g 4 0) 6 0) := by simp only [pu_up, mt_row_s, pu_row_row]
theorem x_gainLoop {a : AW} {y m : Nat} (hm : m ≤ 20) (hw : wfA a y) : ∀ (d t fuel : Nat) (σ : mt_St), nA a = t + d → d < fuel → SX a σ 1 → (∀ k, k < m → σ 38 k = upA (yrs k a)) → (∀ j, j < t → σ 42 j = nI (agN a (a (4 + j)) m) ∧ σ 43 j = nI (agN a (tornT (a (4 + j))) m)) → ∃ σ', bX5_foreseeGains_7 5000 fuel σ (nI m) (nI t) = some ((), σ') ∧ (∀ c, c < 37 ∨ 43 < c → σ' c = σ c) ∧ (∀ j, j < nA a → σ' 42 j = nI (agN a (a (4 + j)) m) ∧ σ' 43 j = nI (agN a (tornT (a (4 + j))) m)) := by
  have hn8 := hw.n8
  intro d
  induction d with
  | zero =>
    intro t fuel σ hd hf h hu hg
    obtain ⟨fuel, rfl⟩ : ∃ q, fuel = q + 1 := ⟨fuel - 1, by omega⟩
    have : t = nA a := by omega
    subst this
    unfold bX5_foreseeGains_7
    rw [h.n hw, if_pos (nI_le (Nat.le_refl _) (by omega))]
    exact ⟨σ, rfl, fun _ _ => rfl, hg⟩
  | succ d ih =>
    intro t fuel σ hd hf h hu hg
    obtain ⟨fuel, rfl⟩ : ∃ q, fuel = q + 1 := ⟨fuel - 1, by omega⟩
    have ht : t < nA a := by omega
    have wT := hw.2.2.2.2.2.2.2 t ht
    obtain ⟨g, g1, g2⟩ := x_try hw h ht
    obtain ⟨l, l1, l2⟩ := x_lv (a := a) (T := a (4 + t)) (m := m) (σ := mt_row σ 37 g) (by omega) (by rw [mt_row_s]; exact g2) (fun k hk => by rw [mt_row_n (by decide)]; exact hu k hk)
    rw [(agN_n hw wT m).1, pu_row_row] at l1
    have s2 : SX a (mt_up (mt_row σ 37 l) 42 t (nI (agN a (a (4 + t)) m))) 1 := h.same hn8 (fun c p q => by rw [pu_up, mt_row_n (by omega), mt_row_n (by omega)])
    obtain ⟨g', g1', g2'⟩ := x_try hw s2 ht
    obtain ⟨l', l1', l2'⟩ := x_lv (a := a) (T := tornT (a (4 + t))) (m := m) (σ := mt_row (mt_up (mt_row σ 37 l) 42 t (nI (agN a (a (4 + t)) m))) 37 (upd (upd g' 4 0) 6 0)) (by omega) (by rw [mt_row_s]; exact tE_upd (tE_upd g2' 4 0) 6 0) (fun k hk => by rw [mt_row_n (by decide), pu_up, mt_row_n (by decide), mt_row_n (by decide)]; exact hu k hk)
    rw [(agN_n hw (tornT_wf wT) m).1, pu_row_row] at l1'
    generalize hS : mt_up (mt_row (mt_up (mt_row σ 37 l) 42 t (nI (agN a (a (4 + t)) m))) 37 l') 43 t (nI (agN a (tornT (a (4 + t))) m)) = S
    have fr : ∀ c, c ≠ 37 → c ≠ 42 → c ≠ 43 → S c = σ c := fun c p q r => by rw [← hS, pu_up, mt_row_n r, mt_row_n p, pu_up, mt_row_n q, mt_row_n p]
    have S42 : S 42 = upd (σ 42) t (nI (agN a (a (4 + t)) m)) := by rw [← hS, pu_up, mt_row_n (by decide), mt_row_n (by decide), pu_up, mt_row_s, mt_row_n (by decide)]
    have S43 : S 43 = upd (σ 43) t (nI (agN a (tornT (a (4 + t))) m)) := by rw [← hS, pu_up, mt_row_s, mt_row_n (by decide), pu_up, mt_row_n (by decide), mt_row_n (by decide)]
    obtain ⟨σ', e1, e2, e3⟩ := ih (t + 1) fuel S (by omega) (by omega) (h.same hn8 (fun c p q => fr c (by omega) (by omega) (by omega))) (fun k hk => by rw [fr 38 (by decide) (by decide) (by decide)]; exact hu k hk) (fun j hj => by
      rw [S42, S43]
      by_cases q : j = t
      · subst q; rw [pu_upd_s, pu_upd_s]; exact ⟨rfl, rfl⟩
      · rw [pu_upd_n q, pu_upd_n q]; exact hg j (by omega))
    refine ⟨σ', ?_, fun c hc => (e2 c hc).trans (fr c (by omega) (by omega) (by omega)), e3⟩
    unfold bX5_foreseeGains_7
    rw [h.n hw, if_neg (nI_ge (by omega) (by omega)), g1, pu_call, mt_row_n (show 1 ≠ 37 by decide), h.1.1, l1, pu_call, pu_chkP (pu_in (by omega) (by decide)), pu_bnd, nI_clamp (by omega), g1', pu_call, pu_bnd, pu_bnd, up_up46, mt_row_n (show 1 ≠ 37 by decide), s2.1.1, l1', pu_call, pu_chkP (pu_in (by omega) (by decide)), pu_bnd, hS, nI_1]
    exact e1
theorem x_goldTorn {a : AW} {y m s g : Nat} {σ : mt_St} (hm : m ≤ 20) (hs : s < 256) (hg : g ≤ 99999) (eg : a 0 3 = nI g) (hw : wfA a y) (h : SX a σ 1) (hG : ∀ j, j < nA a → σ 42 j = nI (agN a (a (4 + j)) m) ∧ σ 43 j = nI (agN a (tornT (a (4 + j))) m)) : fX5_goldWithTorn 5000 σ (nI s) = some (nI (gtN a g m s)) := by
  have hn8 := hw.n8
  have bd : ∀ i, i ≤ nA a → sumN (fun t => agN a (trT a s t) m) i ≤ 600 * i := fun i hi => sumN_le i (fun t ht => by
    have := (agN_n hw (trT_wf (s := s) hw (show t < nA a by omega)) m).2
    omega)
  have lp : ∀ (d i fuel : Nat), nA a = i + d → d < fuel → bX5_goldWithTorn_10 5000 σ fuel (nI s) (nI (g + sumN (fun t => agN a (trT a s t) m) i)) (nI i) = some (nI (gtN a g m s)) := by
    intro d
    induction d with
    | zero =>
      intro i fuel hd hf
      obtain ⟨fuel, rfl⟩ : ∃ q, fuel = q + 1 := ⟨fuel - 1, by omega⟩
      have : i = nA a := by omega
      subst this
      have := bd (nA a) (Nat.le_refl _)
      unfold bX5_goldWithTorn_10
      rw [h.n hw, if_pos (nI_le (Nat.le_refl _) (by omega)), show (99999 : Int32) = nI 99999 from rfl, pu_min _ 99999 (by omega) (by decide)]
      rfl
    | succ d ih =>
      intro i fuel hd hf
      obtain ⟨fuel, rfl⟩ : ∃ q, fuel = q + 1 := ⟨fuel - 1, by omega⟩
      have hb := m_bit s (by omega) i (by omega)
      have st : g + sumN (fun t => agN a (trT a s t) m) i + agN a (trT a s i) m = g + sumN (fun t => agN a (trT a s t) m) (i + 1) := by
        show _ = g + (sumN (fun t => agN a (trT a s t) m) i + agN a (trT a s i) m)
        omega
      unfold bX5_goldWithTorn_10 bX5_goldWithTorn_46
      rw [h.n hw, if_neg (nI_ge (by omega) (by omega)), pu_chkP (pu_in (by omega) (by decide)), pu_chkP (pu_in (by omega) (by decide)), nI_clamp (by omega), (hG i (by omega)).1, (hG i (by omega)).2, nI_1, nI_add, nI_add]
      by_cases q : s.testBit i = true
      · have e : trT a s i = tornT (a (4 + i)) := by unfold trT; rw [if_pos q]
        rw [e] at st
        rw [if_pos (hb.mpr q), st]
        exact ih (i + 1) fuel (by omega) (by omega)
      · have e : trT a s i = a (4 + i) := by unfold trT; rw [if_neg q]
        rw [e] at st
        rw [if_neg (fun z => q (hb.mp z)), st]
        exact ih (i + 1) fuel (by omega) (by omega)
  unfold fX5_goldWithTorn
  rw [h.1.2.2.1, eg]
  exact lp (nA a) 0 5000 (by omega) (by omega)
theorem x_tearLoop {σ : mt_St} {n : Nat} {v : Int32} {G : Nat → Nat} (hn : n ≤ 8) (h7 : σ 1 7 = nI n) (hQ : ∀ s, s < 2 ^ n → fX5_goldWithTorn 5000 σ (nI s) = some (nI (G s))) : ∀ (d i fuel : Nat) (o : Option Nat), 2 ^ n = i + d → d < fuel → isB (fun s => decide (¬ v < nI (G s))) cnt 0 i o → ∃ o', isB (fun s => decide (¬ v < nI (G s))) cnt 0 (2 ^ n) o' ∧ (∀ k, o' = some k → bX5_tear_38 5000 fuel σ v (eO o) (eC cnt 9 o) (nI i) = some (nI k, σ)) ∧ (o' = none → bX5_tear_38 5000 fuel σ v (eO o) (eC cnt 9 o) (nI i) = some (-1000001 - nI 3, x_fs σ 3)) := by
  have hN : 2 ^ n ≤ 256 := Nat.pow_le_pow_right (n := 2) (by decide) hn
  have hsh : (1 : Int32) <<< (nI n &&& 31) = nI (2 ^ n) := ps_bit n (by omega)
  intro d
  induction d with
  | zero =>
    intro i fuel o hd hf h
    obtain ⟨fuel, rfl⟩ : ∃ q, fuel = q + 1 := ⟨fuel - 1, by omega⟩
    have : i = 2 ^ n := by omega
    subst this
    refine ⟨o, h, fun k hk => ?_, fun hk => ?_⟩
    · subst hk
      have hk := isB_lt h
      unfold bX5_tear_38 bX5_tear_102
      rw [h7, hsh, if_pos (nI_le (Nat.le_refl _) (by omega)), show eO (some k) = nI k from rfl, if_pos (show (0 : Int32) ≤ nI k from nI_le (a := 0) (by omega) (by omega))]
    · subst hk
      unfold bX5_tear_38 bX5_tear_102
      rw [h7, hsh, if_pos (nI_le (Nat.le_refl _) (by omega)), show eO none = -1 from rfl, if_neg (by decide), x_find3, pu_call]
  | succ d ih =>
    intro i fuel o hd hf h
    obtain ⟨fuel, rfl⟩ : ∃ q, fuel = q + 1 := ⟨fuel - 1, by omega⟩
    obtain ⟨o', h1, h2⟩ := ih (i + 1) fuel (stA (fun s => decide (¬ v < nI (G s))) cnt i o) (by omega) (by omega) (isB_A h)
    have c1 := cnt_8 i (by omega)
    have stp : bX5_tear_38 5000 (fuel + 1) σ v (eO o) (eC cnt 9 o) (nI i) = bX5_tear_38 5000 fuel σ v (eO (stA (fun s => decide (¬ v < nI (G s))) cnt i o)) (eC cnt 9 (stA (fun s => decide (¬ v < nI (G s))) cnt i o)) (nI (i + 1)) := by
      conv => lhs; unfold bX5_tear_38 bX5_tear_83
      rw [h7, hsh, if_neg (nI_ge (by omega) (by omega)), pc_x, pu_ask, pc_cnt i (by omega), hQ i (by omega), pu_ask, nI_1]
      cases o with
      | none =>
        rw [show eC cnt 9 none = nI 9 from rfl, if_neg (nI_ge (by omega) (by decide))]
        by_cases q : v < nI (G i)
        · rw [stA_n0 (show decide (¬ v < nI (G i)) = false from decide_eq_false (fun z => z q)), if_pos q]; rfl
        · rw [stA_n1 (show decide (¬ v < nI (G i)) = true from decide_eq_true q), if_neg q]; rfl
      | some k =>
        have c2 := cnt_12 k
        rw [show eC cnt 9 (some k) = nI (cnt k) from rfl]
        by_cases w : cnt k ≤ cnt i
        · rw [if_pos (nI_le w (by omega)), stA_k w]; rfl
        · rw [if_neg (nI_ge (by omega) (by omega))]
          by_cases q : v < nI (G i)
          · rw [stA_s0 (show decide (¬ v < nI (G i)) = false from decide_eq_false (fun z => z q)), if_pos q]; rfl
          · rw [stA_s1 w (show decide (¬ v < nI (G i)) = true from decide_eq_true q), if_neg q]; rfl
    refine ⟨o', h1, ?_⟩
    rw [stp]
    exact h2
theorem ok99999 {v : Int32} (h : okR v 99999 = true) : ∃ j, j ≤ 99999 ∧ v = nI j := by
  rw [show (99999 : Int32) = nI 99999 by decide] at h
  exact okR_nI (by decide) h
theorem e_tear {σ : mt_St} {y : Nat} (hy : y ≤ 40000) (h : RR σ y) (u w : Int32) : EV (fun s => fX5_tear 5000 s u w) (fun s => fX6_tear 5000 s u w) σ y := by
  obtain ⟨⟨a, ha⟩, -⟩ := id h
  have hn8 := ha.1.n8
  obtain ⟨i7, i1⟩ := ha.isT
  cases h1 : okR u 99999
  · refine EV.find (w := 0) (by decide) h ?_ ?_
    · simp only [fX5_tear, bX5_tear_18, x_win, h1, x_find0, pu_ask, pu_call, pu_bnd, pu_chk, pu_b0, pu_b1, bN_t, bN_f, bN_c, i10, i00, if_true, if_false]
    · simp only [fX6_tear, bX6_tear_20, m_win, h1, m_find0, pu_ask, pu_call, pu_bnd, pu_chk, pu_b0, pu_b1, bN_t, bN_f, bN_c, i10, i00, if_true, if_false]
  cases h2 : okR w 20
  · refine EV.find (w := 0) (by decide) h ?_ ?_
    · simp only [fX5_tear, bX5_tear_18, x_win, h1, h2, x_find0, pu_ask, pu_call, pu_bnd, pu_chk, pu_b0, pu_b1, bN_t, bN_f, bN_c, i10, i00, if_true, if_false]
    · simp only [fX6_tear, bX6_tear_20, m_win, h1, h2, m_find0, pu_ask, pu_call, pu_bnd, pu_chk, pu_b0, pu_b1, bN_t, bN_f, bN_c, i10, i00, if_true, if_false]
  obtain ⟨m, hm, rfl⟩ := okR_nI (m := 20) (by decide) h2
  obtain ⟨g, hg, eg⟩ := ha.1.2.2.2.1
  obtain ⟨f, e1, u1⟩ := x_fore (m := m) (by omega) hy ha.1 ha.2.1
  have s1 : SX a (mt_row σ 38 f) 1 := ha.2.1.same hn8 (fun c p q => mt_row_n (by omega))
  obtain ⟨σ1, a1, a2, a3⟩ := x_gainLoop hm ha.1 (nA a) 0 5000 (mt_row σ 38 f) (by omega) (by omega) s1 (fun k hk => by rw [mt_row_s]; exact u1 k hk) (fun j hj => by omega)
  have fr : ∀ c, c < 37 ∨ 43 < c → σ1 c = σ c := fun c hc => by rw [a2 c hc, mt_row_n (by omega)]
  have s2 : SX a σ1 1 := ha.2.1.same hn8 (fun c p q => fr c (by omega))
  have hN : 2 ^ nA a ≤ 256 := Nat.pow_le_pow_right (n := 2) (by decide) hn8
  obtain ⟨o, o1, o2, o3⟩ := x_tearLoop (v := u) (G := gtN a g m) hn8 (s2.n ha.1) (fun s hs => x_goldTorn hm (by omega) hg eg ha.1 s2 a3) (2 ^ nA a) 0 5000 none (by omega) (by omega) isB_0
  have ex : fX5_tear 5000 σ u (nI m) = bX5_tear_38 5000 5000 σ1 u (eO none) (eC cnt 9 none) (nI 0) := by
    unfold fX5_tear fX5_foreseeGains
    rw [x_win, pu_ask, h1, bN_t, if_neg i10', x_win, pu_ask, h2, bN_t, if_neg i10', e1, pu_call, show bX5_foreseeGains_7 5000 5000 (mt_row σ 38 f) (nI m) 0 = some ((), σ1) from a1, pu_call]
    rfl
  have q1 : quiet σ σ1 := quiet_fr (fun c hc => fr c (by omega))
  refine ev_best (o := o) h (σ1 := σ1) q1 (fun k hk => by subst hk; have := isB_lt o1; omega) ⟨fun k hk => ?_, fun hk => ?_⟩ (fun s hs => ?_)
  · show fX5_tear 5000 σ u (nI m) = _
    rw [ex]; exact o2 k hk
  · show fX5_tear 5000 σ u (nI m) = _
    rw [ex]; exact o3 hk
  · have s57 : s 57 = σ 57 := by
      rcases hs with rfl | rfl
      · exact fr 57 (by omega)
      · rw [x_fs_n (by decide)]; exact fr 57 (by omega)
    obtain ⟨o', s', g1, g2, g3⟩ := m_tearLoop (a := a) (m := m) (N := 2 ^ nA a) (v := u) (G := gtN a g m) hN ha.1 (fun z hz τ hτ => m_goldTorn (m := m) hm hy (by omega) hg eg ha.1 hτ) (2 ^ nA a) 5000 s none (by omega) (by omega) (by rw [s57]; exact ha.2.2) isB_0
    refine ⟨s', g3.quiet, ?_⟩
    rw [isB_uniq o1 g1, ← g2]
    show fX6_tear 5000 s u (nI m) = _
    unfold fX6_tear
    rw [m_win, pu_ask, h1, bN_t, if_neg i10', m_win, pu_ask, h2, bN_t, if_neg i10', s57, i1, ps_bit (nA a) (by omega)]
    rfl
