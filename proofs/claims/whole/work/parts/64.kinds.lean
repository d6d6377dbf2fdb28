/-! as a sheet tells -/
def fol (g V : Nat → Int32) : Nat → Bool
  | 0 => true
  | k + 1 => fol g V k && (decide (g k = -1) || decide (g k = V k))
theorem fol_s (g V : Nat → Int32) (k : Nat) : fol g V (k + 1) = (fol g V k && (decide (g k = -1) || decide (g k = V k))) := rfl
theorem fol_f {g V : Nat → Int32} : ∀ d i, fol g V i = false → fol g V (i + d) = false := by
  intro d
  induction d with
  | zero => intro i h; exact h
  | succ d ih => intro i h; show (fol g V (i + d) && _) = false; rw [ih i h]; rfl
theorem fol_any {g V : Nat → Int32} : ∀ d i, (∀ k, i ≤ k → k < i + d → g k = -1) → fol g V (i + d) = fol g V i := by
  intro d
  induction d with
  | zero => intro i h; rfl
  | succ d ih =>
    intro i h
    show (fol g V (i + d) && (decide (g (i + d) = -1) || decide (g (i + d) = V (i + d)))) = _
    rw [ih i (fun k p q => h k p (by omega)), h (i + d) (by omega) (by omega), decide_eq_true rfl, Bool.true_or, Bool.and_true]
theorem fol_cg {g V W : Nat → Int32} : ∀ m, (∀ k, k < m → V k = W k) → fol g V m = fol g W m := by
  intro m
  induction m with
  | zero => intro _; rfl
  | succ m ih =>
    intro h
    rw [fol_s, fol_s, ih (fun k hk => h k (by omega)), h m (by omega)]
theorem x_told {σ : mt_St} {c l M N : Nat} {g : Nat → Int32} (hl : l ≤ 40) (hM : M = min l N) (hN : N ≤ 40) (h1 : σ c 1 = nI l) (hg : ∀ k, k < 40 → σ (c + 4) k = g k) : ∃ m, m ≤ M ∧ fX1_lastTold 5000 σ c (nI N) = some (nI m) ∧ ∀ k, m ≤ k → k < M → g k = -1 := by
  have lp : ∀ (i fuel : Nat), i ≤ M → i < fuel → (∀ k, i ≤ k → k < M → g k = -1) → ∃ m, m ≤ M ∧ bX1_lastTold_9 5000 c σ fuel (nI i) = some (nI m) ∧ ∀ k, m ≤ k → k < M → g k = -1 := by
    intro i
    induction i with
    | zero =>
      intro fuel hi hf hk
      obtain ⟨fuel, rfl⟩ : ∃ q, fuel = q + 1 := ⟨fuel - 1, by omega⟩
      refine ⟨0, by omega, ?_, hk⟩
      unfold bX1_lastTold_9
      rw [if_pos (by decide)]
      rfl
    | succ i ih =>
      intro fuel hi hf hk
      obtain ⟨fuel, rfl⟩ : ∃ q, fuel = q + 1 := ⟨fuel - 1, by omega⟩
      unfold bX1_lastTold_9
      rw [if_neg (nI_nle (by omega) (by omega)), pu_m1, nI_pred, pu_chkP (pu_in (by omega) (by decide)), nI_clamp (by omega), hg i (by omega)]
      by_cases q : g i = -1
      · rw [if_pos q]
        exact ih fuel (by omega) (by omega) (fun k p s => by
          by_cases z : k = i
          · rw [z]; exact q
          · exact hk k (by omega) s)
      · rw [if_neg q]
        exact ⟨i + 1, hi, rfl, hk⟩
  unfold fX1_lastTold
  rw [h1, pu_min l N (by omega) (by omega), ← hM]
  exact lp M 5000 (by omega) (by omega) (fun k p q => by omega)
theorem x_allows {σ : mt_St} {c l i : Nat} {v : Int32} (hl : l ≤ 40) (hi : i < l) (h1 : σ c 1 = nI l) : fX1_allows 5000 σ c (nI i) v = some (bN (decide (σ (c + 4) i = -1) || decide (σ (c + 4) i = v))) := by
  obtain ⟨l, rfl⟩ : ∃ q, l = q + 1 := ⟨l - 1, by omega⟩
  unfold fX1_allows bX1_allows_33 bX1_allows_38
  rw [x_win, pu_ask, h1, nI_pred, okR_of (show i ≤ l by omega) (by omega), bN_t, if_neg i10', pu_chkP (pu_in (by omega) (by decide)), pu_chkP (pu_in (by omega) (by decide)), nI_clamp (by omega)]
  by_cases q : σ (c + 4) i = -1
  · rw [if_pos q, decide_eq_true q]; rfl
  · rw [if_neg q, decide_eq_false q, Bool.false_or]
    by_cases z : σ (c + 4) i = v
    · rw [if_pos z, decide_eq_true z]; rfl
    · rw [if_neg z, decide_eq_false z]; rfl
theorem x_folLoop {a : AW} {T g : Nat → Int32} {c l m w : Nat} (hc : 47 ≤ c) (hl : l ≤ 40) (hm : m ≤ l) (hw : w < 8) : ∀ (d i fuel : Nat) (σ : mt_St), m = i + d → d < fuel → fol g (fun k => alo a T k w) i = true → tE (σ 37) (alo a T (i - 1)) → (∀ k, k < m → σ 38 k = upA (yrs k a)) → σ 1 0 = a 0 0 → σ c 1 = nI l → (∀ k, k < 40 → σ (c + 4) k = g k) → ∃ f, bX5_followsSheet_3 5000 c fuel σ (nI m) (nI w) (nI i) = some (bN (fol g (fun k => alo a T k w) m), mt_row σ 37 f) := by
  intro d
  induction d with
  | zero =>
    intro i fuel σ hd hf hb h hu h0 h1 hg
    obtain ⟨fuel, rfl⟩ : ∃ q, fuel = q + 1 := ⟨fuel - 1, by omega⟩
    have : i = m := by omega
    subst this
    unfold bX5_followsSheet_3
    rw [if_pos (nI_le (Nat.le_refl _) (by omega)), hb]
    exact ⟨σ 37, by rw [mt_row_same]; rfl⟩
  | succ d ih =>
    intro i fuel σ hd hf hb h hu h0 h1 hg
    obtain ⟨fuel, rfl⟩ : ∃ q, fuel = q + 1 := ⟨fuel - 1, by omega⟩
    have fin : ∀ f, tE f (alo a T i) → ∃ f', bX5_followsSheet_46 5000 c (fun s0 x2 x3 x4 => bX5_followsSheet_3 5000 c fuel s0 x2 x3 x4) (mt_row σ 37 f) (nI m) (nI w) (nI i) = some (bN (fol g (fun k => alo a T k w) m), mt_row σ 37 f') := by
      intro f hf
      have c1 : mt_row σ 37 f c 1 = nI l := by rw [mt_row_n (by omega)]; exact h1
      have c4 : mt_row σ 37 f (c + 4) i = g i := by rw [mt_row_n (by omega)]; exact hg i (by omega)
      unfold bX5_followsSheet_46
      rw [x_tell hw, pu_ask, x_allows hl (by omega) c1, pu_ask, c4, mt_row_s, hf w hw, nI_1]
      have hs := fol_s g (fun k => alo a T k w) i
      rw [hb, Bool.true_and] at hs
      cases q : (decide (g i = -1) || decide (g i = alo a T i w))
      · rw [q] at hs
        have := fol_f d (i + 1) hs
        rw [show i + 1 + d = m by omega] at this
        rw [bN_f, if_pos rfl, this]
        exact ⟨f, rfl⟩
      · rw [q] at hs
        obtain ⟨f', e⟩ := ih (i + 1) fuel (mt_row σ 37 f) (by omega) (by omega) hs (by rw [mt_row_s]; exact hf) (fun k hk => by rw [mt_row_n (by decide)]; exact hu k hk) (by rw [mt_row_n (by decide)]; exact h0) c1 (fun k hk => by rw [mt_row_n (by omega)]; exact hg k hk)
        rw [pu_row_row] at e
        rw [bN_t, if_neg i10']
        exact ⟨f', e⟩
    unfold bX5_followsSheet_3
    rw [if_neg (nI_ge (by omega) (by omega)), x_win, pu_ask]
    cases i with
    | zero =>
      rw [show okR (nI 0 - 1) 199 = false by decide, bN_f, if_pos rfl]
      have := fin (σ 37) h
      rw [mt_row_same] at this
      exact this
    | succ i =>
      rw [nI_pred, show okR (nI i) 199 = true from okR_of (m := 199) (by omega) (by decide), bN_t, if_neg i10', pu_chkP (pu_in (by omega) (by decide)), nI_clamp (by omega), hu i (by omega), h0, x_live, pu_call]
      exact fin _ (tE_live h _ _)
theorem x_follow {a : AW} {T g : Nat → Int32} {c l m w : Nat} {σ : mt_St} (hc : 47 ≤ c) (hl : l ≤ 40) (hm : m ≤ l) (hw : w < 8) (h : tE (σ 37) T) (hu : ∀ k, k < m → σ 38 k = upA (yrs k a)) (h0 : σ 1 0 = a 0 0) (h1 : σ c 1 = nI l) (hg : ∀ k, k < 40 → σ (c + 4) k = g k) : ∃ f, fX5_followsSheet 5000 σ c (nI m) (nI w) = some (bN (fol g (fun k => alo a T k w) m), mt_row σ 37 f) := by
  unfold fX5_followsSheet
  exact x_folLoop hc hl hm hw m 0 5000 σ (by omega) (by omega) rfl h hu h0 h1 hg
theorem m_soLoop {b : AW} {y s j M : Nat} {g V : Nat → Int32} {s0 : mt_St} (hs4 : s < 4) (hM : M ≤ 40) (hy : y ≤ 40000) (hw : wfA b y) (hj : j < 86) (hs : ∀ k, k < 86 → s0 59 k = s0 57 k) (hg : ∀ k, k < 40 → s0 66 (40 * s + k) = g k) (hV : ∀ k (r : Nat → Int32), k < M → SM (yrs k b) r → r j = V k) : ∀ (d i fuel : Nat) (σ : mt_St), M = i + d → d < fuel → SM (yrs i b) (σ 57) → frM s0 σ → ∃ σ', bX6_isSo_17 5000 fuel σ (nI s) (nI j) (nI M) (bN (fol g V i)) (nI i) = some (bN (fol g V M), σ') ∧ (∀ c, c ≠ 56 → c ≠ 57 → σ' c = s0 c) ∧ (∀ k, k ≠ 5 → σ' 56 k = s0 56 k) ∧ ∀ k, k < 86 → σ' 57 k = s0 57 k := by
  have fin : ∀ (σ : mt_St) (x : Bool), frM s0 σ → ∃ σ', bX6_isSo_76 5000 σ (bN x) = some (bN x, σ') ∧ (∀ c, c ≠ 56 → c ≠ 57 → σ' c = s0 c) ∧ (∀ k, k ≠ 5 → σ' 56 k = s0 56 k) ∧ ∀ k, k < 86 → σ' 57 k = s0 57 k := by
    intro σ x h
    obtain ⟨q, e1, e2⟩ := m_copy (a1 := 59) (a2 := 57) (by decide) σ
    refine ⟨mt_row σ 57 q, ?_, fun c p s => by rw [mt_row_n s, h.1 c s p], fun k hk => by rw [mt_row_n (by decide), h.2 k hk], fun k hk => by rw [mt_row_s, e2 k hk, h.1 59 (by decide) (by decide), hs k hk]⟩
    unfold bX6_isSo_76
    rw [e1, pu_call, bN_c, pu_chk]
  intro d
  induction d with
  | zero =>
    intro i fuel σ hd hf h hfr
    obtain ⟨fuel, rfl⟩ : ∃ q, fuel = q + 1 := ⟨fuel - 1, by omega⟩
    have : i = M := by omega
    subst this
    unfold bX6_isSo_17
    rw [if_pos (nI_le (Nat.le_refl _) (by omega))]
    exact fin σ _ hfr
  | succ d ih =>
    intro i fuel σ hd hf h hfr
    obtain ⟨fuel, rfl⟩ : ∃ q, fuel = q + 1 := ⟨fuel - 1, by omega⟩
    unfold bX6_isSo_17 bX6_isSo_59 bX6_isSo_64
    rw [if_neg (nI_ge (by omega) (by omega))]
    have hsi := fol_s g V i
    cases q : fol g V i
    · have := fol_f (d + 1) i q
      rw [show i + (d + 1) = M by omega] at this
      rw [this, bN_f, if_pos rfl]
      have := fin σ false hfr
      rw [bN_f] at this
      exact this
    · rw [q, Bool.true_and] at hsi
      obtain ⟨σ1, p1, p2, p3, -⟩ := m_year (a := yrs i b) (y := y + i) (σ := σ) (by omega) (wf_yrs i (by omega) hw) h
      have nx := ih (i + 1) fuel σ1 (by omega) (by omega) p2 (hfr.tr p3)
      have e66 : σ 66 (40 * s + i) = g i := by rw [hfr.1 66 (by decide) (by decide)]; exact hg i (by omega)
      rw [bN_t, if_neg i10', m_i40, pu_chkP (pu_in (by omega) (by decide)), nI_clamp (show 40 * s + i < 2 ^ 31 by omega), pu_chkP (pu_in hj (by decide)), nI_clamp (show j < 2 ^ 31 by omega), e66, hV i _ (by omega) h, p1, pu_call, pu_call, nI_1]
      by_cases c1 : g i = -1
      · rw [hsi, decide_eq_true c1, Bool.true_or] at nx
        rw [if_pos c1]; exact nx
      · rw [hsi, decide_eq_false c1, Bool.false_or] at nx
        rw [if_neg c1]
        by_cases c2 : g i = V i
        · rw [decide_eq_true c2] at nx
          rw [if_pos c2]; exact nx
        · rw [decide_eq_false c2] at nx
          rw [if_neg c2]; exact nx
theorem m_isSo {b : AW} {y s j M : Nat} {g V : Nat → Int32} {σ : mt_St} (hs4 : s < 4) (hM : M ≤ 40) (hy : y ≤ 40000) (hw : wfA b y) (hj : j < 86) (h : SM b (σ 57)) (hg : ∀ k, k < 40 → σ 66 (40 * s + k) = g k) (hV : ∀ k (r : Nat → Int32), k < M → SM (yrs k b) r → r j = V k) : ∃ σ', fX6_isSo 5000 σ (nI s) (nI j) (nI M) = some (bN (fol g V M), σ') ∧ mq σ σ' := by
  obtain ⟨r, c1, c2⟩ := m_copy (a1 := 57) (a2 := 59) (by decide) σ
  obtain ⟨σ', g1, g2, g3, g4⟩ := m_soLoop (s0 := mt_row σ 59 r) (g := g) (V := V) hs4 hM hy hw hj (fun k hk => by rw [mt_row_s, mt_row_n (by decide)]; exact c2 k hk) (fun k hk => by rw [mt_row_n (by decide)]; exact hg k hk) hV M 0 5000 (mt_row σ 59 r) (by omega) (by omega) (by rw [mt_row_n (by decide)]; exact h) frM.rf
  refine ⟨σ', ?_, fun c p q s => by rw [g2 c p q, mt_row_n s], fun k hk => by rw [g3 k hk, mt_row_n (by decide)], fun k hk => by rw [g4 k hk, mt_row_n (by decide)]⟩
  unfold fX6_isSo
  rw [c1, pu_call]
  exact g1
/-! kinds -/
def knV (a : AW) (t i : Nat) : Nat → Int32 := fun k => alo a (upd (a (4 + t)) 0 (nI i)) k 3
def knB (a : AW) (g : Nat → Int32) (t M : Nat) : Nat → Int32
  | 0 => 0
  | i + 1 => if fol g (knV a t i) M = true then knB a g t M i ||| ((1 : Int32) <<< (nI i &&& 31)) else knB a g t M i
theorem knB_s (a : AW) (g : Nat → Int32) (t M i : Nat) : knB a g t M (i + 1) = if fol g (knV a t i) M = true then knB a g t M i ||| ((1 : Int32) <<< (nI i &&& 31)) else knB a g t M i := rfl
theorem x_knLoop {a : AW} {y m M t s l : Nat} {g : Nat → Int32} (hs : s < 4) (hl : l ≤ 40) (hm : m ≤ l) (hw : wfA a y) (ht : t < nA a) (hM : ∀ V, fol g V M = fol g V m) : ∀ (d i fuel : Nat) (σ : mt_St), 7 = i + d → d < fuel → SX a σ 1 → (∀ k, k < m → σ 38 k = upA (yrs k a)) → σ (47 + s) 1 = nI l → (∀ k, k < 40 → σ (51 + s) k = g k) → ∃ f, bX5_kinds_42 5000 fuel σ (nI s) (nI t) (nI m) (knB a g t M i) (nI i) = some (knB a g t M 7, mt_row σ 37 f) := by
  have hn8 := hw.n8
  intro d
  induction d with
  | zero =>
    intro i fuel σ hd hf h hu h1 hg
    obtain ⟨fuel, rfl⟩ : ∃ q, fuel = q + 1 := ⟨fuel - 1, by omega⟩
    have : i = 7 := by omega
    subst this
    unfold bX5_kinds_42
    rw [if_pos (by decide)]
    exact ⟨σ 37, by rw [mt_row_same]⟩
  | succ d ih =>
    intro i fuel σ hd hf h hu h1 hg
    obtain ⟨fuel, rfl⟩ : ∃ q, fuel = q + 1 := ⟨fuel - 1, by omega⟩
    obtain ⟨f, f1, f2⟩ := x_try hw h ht
    obtain ⟨l', l1⟩ := x_follow (a := a) (T := upd (a (4 + t)) 0 (nI i)) (g := g) (c := 47 + s) (l := l) (m := m) (w := 3) (σ := mt_row σ 37 (upd f 0 (nI i))) (by omega) hl hm (by decide) (by rw [mt_row_s]; exact tE_upd f2 0 (nI i)) (fun k hk => by rw [mt_row_n (by decide)]; exact hu k hk) (by rw [mt_row_n (by decide)]; exact h.1.1) (by rw [mt_row_n (by omega)]; exact h1) (fun k hk => by rw [mt_row_n (by omega), show 47 + s + 4 = 51 + s by omega]; exact hg k hk)
    rw [pu_row_row] at l1
    obtain ⟨f', e1⟩ := ih (i + 1) fuel (mt_row σ 37 l') (by omega) (by omega) (h.same hn8 (fun c p q => mt_row_n (by omega))) (fun k hk => by rw [mt_row_n (by decide)]; exact hu k hk) (by rw [mt_row_n (by omega)]; exact h1) (fun k hk => by rw [mt_row_n (by omega)]; exact hg k hk)
    rw [pu_row_row, knB_s, hM] at e1
    refine ⟨f', ?_⟩
    unfold bX5_kinds_42 bX5_kinds_88
    rw [if_neg (show ¬ (7 : Int32) ≤ nI i from nI_ge (b := 7) (by omega) (by decide)), f1, pu_call, pu_bnd, pu_up, mt_row_s, pu_row_row, pu_chkP (pu_in hs (by decide)), nI_clamp (show s < 2 ^ 31 by omega), show 46 + 1 + s = 47 + s by omega, show (3 : Int32) = nI 3 from rfl, l1, pu_call, nI_1]
    cases q : fol g (fun k => alo a (upd (a (4 + t)) 0 (nI i)) k 3) m
    · rw [show fol g (knV a t i) m = false from q, if_neg (by decide)] at e1
      rw [bN_f, if_pos rfl]; exact e1
    · rw [show fol g (knV a t i) m = true from q, if_pos rfl] at e1
      rw [bN_t, if_neg i10']; exact e1
theorem m_knLoop {a : AW} {y M t s : Nat} {g : Nat → Int32} {kd : Int32} (hs : s < 4) (hM : M ≤ 40) (hy : y ≤ 40000) (hw : wfA a y) (ht : t < nA a) : ∀ (d i fuel : Nat) (σ : mt_St), 7 = i + d → d < fuel → (∃ x, SM a (upd (σ 57) (22 + 8 * t + 0) x)) → σ 65 s = nI M → (∀ k, k < 40 → σ 66 (40 * s + k) = g k) → ∃ σ', bX6_kinds_43 5000 fuel σ (nI s) (nI t) (nI (22 + 8 * t + 0)) kd (knB a g t M i) (nI i) = some (knB a g t M 7, σ') ∧ mq (mt_row σ 57 (upd (σ 57) (22 + 8 * t + 0) kd)) σ' := by
  have hn8 := hw.n8
  intro d
  induction d with
  | zero =>
    intro i fuel σ hd hf h h65 hg
    obtain ⟨fuel, rfl⟩ : ∃ q, fuel = q + 1 := ⟨fuel - 1, by omega⟩
    have : i = 7 := by omega
    subst this
    unfold bX6_kinds_43
    rw [if_pos (by decide), pu_chkP (pu_in (by omega) (by decide)), pu_bnd, nI_clamp (by omega)]
    exact ⟨_, rfl, mq.rf⟩
  | succ d ih =>
    intro i fuel σ hd hf h h65 hg
    obtain ⟨fuel, rfl⟩ : ∃ q, fuel = q + 1 := ⟨fuel - 1, by omega⟩
    have wT : wfT (upd (a (4 + t)) 0 (nI i)) := (hw.2.2.2.2.2.2.2 t ht).takes (by decide) (show okR (nI i) 6 = true from okR_of (m := 6) (by omega) (by decide))
    obtain ⟨σ1, e1, f1⟩ := m_isSo (b := mt_row a (4 + t) (upd (a (4 + t)) 0 (nI i))) (s := s) (j := 22 + 8 * t + 3) (M := M) (g := g) (V := knV a t i) (σ := mt_up σ 57 (22 + 8 * t + 0) (nI i)) hs hM hy (hw.treat ht wT) (by omega) (by rw [pu_up, mt_row_s]; exact SM.over hn8 ht (by decide) h) (fun k hk => by rw [pu_up, mt_row_n (by decide)]; exact hg k hk) (fun k r hk hr => by
      have := hr.2.2.2 t (by rw [nA_yrs, nA_treat]; exact ht) 3 (by decide)
      rw [yrs_alo ht] at this
      exact this)
    obtain ⟨x, hx⟩ := h
    obtain ⟨σ2, g1, g2⟩ := ih (i + 1) fuel σ1 (by omega) (by omega) ⟨x, hx.same hn8 (fun k hk => by
      by_cases q : k = 22 + 8 * t + 0
      · subst q; rw [pu_upd_s, pu_upd_s]
      · rw [pu_upd_n q, pu_upd_n q, f1.2.2 k hk, pu_up, mt_row_s, pu_upd_n q])⟩ (by rw [f1.1 65 (by decide) (by decide) (by decide), pu_up, mt_row_n (by decide)]; exact h65) (fun k hk => by rw [f1.1 66 (by decide) (by decide) (by decide), pu_up, mt_row_n (by decide)]; exact hg k hk)
    refine ⟨σ2, ?_, (mq.over f1).tr g2⟩
    unfold bX6_kinds_43 bX6_kinds_88
    have s65 : mt_up σ 57 (22 + 8 * t + 0) (nI i) 65 = σ 65 := by rw [pu_up, mt_row_n (by decide)]
    rw [if_neg (show ¬ (6 : Int32) < nI i from nI_nlt (show i ≤ 6 by omega) (by decide)), pu_chkP (pu_in (by omega) (by decide)), pu_bnd, nI_clamp (by omega), m_at3, pu_ask, pu_chkP (pu_in hs (by decide)), nI_clamp (show s < 2 ^ 31 by omega), s65, h65, e1, pu_call, nI_1, pu_or0]
    rw [knB_s] at g1
    cases q : fol g (knV a t i) M
    · rw [q, if_neg (by decide)] at g1
      rw [bN_f, if_pos rfl]; exact g1
    · rw [q, if_pos rfl] at g1
      rw [bN_t, if_neg i10']; exact g1
theorem x_faultST {σ : mt_St} {s : Nat} {v : Int32} (h1 : okR (nI s) 3 = true) (hs : s < 4) : fX5_faultOfSheetAndTreaty 5000 σ (nI s) v = some (if σ (47 + s) 0 = 0 then 5 else if okR v (σ 1 7 - 1) = true then -1 else 0) := by
  unfold fX5_faultOfSheetAndTreaty bX5_faultOfSheetAndTreaty_25
  rw [x_fault2 h1 hs, pu_ask]
  by_cases q : σ (47 + s) 0 = 0
  · rw [if_pos q, if_pos q, if_neg (by decide)]
  · rw [if_neg q, if_neg q, if_pos (by decide), x_isTreaty, pu_ask]
    cases okR v (σ 1 7 - 1)
    · rfl
    · rfl
theorem x_faultST0 {σ : mt_St} {u v : Int32} (h1 : okR u 3 = false) : fX5_faultOfSheetAndTreaty 5000 σ u v = some 0 := by
  unfold fX5_faultOfSheetAndTreaty bX5_faultOfSheetAndTreaty_25
  rw [x_fault1 h1, pu_ask, if_neg (by decide)]
theorem m_lack3 {σ : mt_St} {s : Nat} (b : Bool) (h1 : okR (nI s) 3 = true) (hs : s < 4) : fX6_lacks 5000 σ (nI s) (bN b) = some (if σ 64 s = 0 then -1000006 else if b = true then 0 else -1000001) := by
  unfold fX6_lacks bX6_lacks_36
  rw [m_isSheet, pu_ask, h1, bN_t, if_neg i10', pu_chkP (pu_in hs (by decide)), nI_clamp (by omega)]
  by_cases q : σ 64 s = 0
  · rw [if_pos q, if_pos q]
  · rw [if_neg q, if_neg q]
    cases b
    · rfl
    · rfl
theorem e_kinds {σ : mt_St} {y : Nat} (hy : y ≤ 40000) (h : RR σ y) (u v : Int32) : EV (fun s => fX5_kinds 5000 s u v) (fun s => fX6_kinds 5000 s u v) σ y := by
  obtain ⟨⟨a, ha⟩, -⟩ := id h
  obtain ⟨i7, i1⟩ := ha.isT
  have hn8 := ha.1.n8
  cases h1 : okR u 3
  · refine EV.find (w := 0) (by decide) h ?_ ?_
    · show fX5_kinds 5000 σ u v = _
      unfold fX5_kinds
      rw [x_faultST0 h1, pu_ask, if_neg (by decide), x_find0, pu_call]
    · show fX6_kinds 5000 _ u v = _
      unfold fX6_kinds
      rw [m_isTreaty, pu_ask, m_lack1 h1, pu_ask, if_neg (by decide), m_find0, pu_call]
  obtain ⟨s, hs, rfl⟩ := okR_nI (m := 3) (by decide) h1
  obtain ⟨g1, g2, g3, g4, n, hn, en⟩ := h.2.2.2.1 s (by omega)
  by_cases h2 : σ (47 + s) 0 = 0
  · refine EV.find (w := 5) (by decide) h ?_ ?_
    · show fX5_kinds 5000 σ (nI s) v = _
      unfold fX5_kinds
      rw [x_faultST h1 (by omega), pu_ask, if_pos h2, if_neg (by decide), x_find5, pu_call]
    · show fX6_kinds 5000 _ (nI s) v = _
      unfold fX6_kinds
      rw [m_isTreaty, pu_ask, m_lack3 _ h1 (by omega), pu_ask, x_fs_n (show 64 ≠ 55 by decide), g1, if_pos h2, if_neg (by decide), m_find5, pu_call]
  cases h3 : okR v (nI (nA a) - 1)
  · refine EV.find (w := 0) (by decide) h ?_ ?_
    · show fX5_kinds 5000 σ (nI s) v = _
      unfold fX5_kinds
      rw [x_faultST h1 (by omega), pu_ask, if_neg h2, i7, h3, if_neg (show ¬ false = true by decide), if_neg (by decide), x_find0, pu_call]
    · show fX6_kinds 5000 _ (nI s) v = _
      unfold fX6_kinds
      rw [m_isTreaty, pu_ask, m_lack3 _ h1 (by omega), pu_ask, x_fs_n (show 64 ≠ 55 by decide), g1, if_neg h2, x_fs_n (show 57 ≠ 55 by decide), i1, h3, if_neg (show ¬ false = true by decide), if_neg (by decide), m_find0, pu_call]
  obtain ⟨t, ht, rfl⟩ := okT ha.1.n8 h3
  obtain ⟨m, hm, t1, t2⟩ := x_told (σ := σ) (c := 47 + s) (l := n) (M := min n 40) (N := 40) (g := σ (51 + s)) hn rfl (by omega) en (fun k hk => by rw [show 47 + s + 4 = 51 + s by omega])
  have hM : ∀ V, fol (σ (51 + s)) V n = fol (σ (51 + s)) V m := fun V => by
    have := fol_any (g := σ (51 + s)) (V := V) (n - m) m (fun k p q => t2 k p (by omega))
    rw [show m + (n - m) = n by omega] at this
    exact this
  obtain ⟨f, e1, u1⟩ := x_fore (m := m) (by omega) hy ha.1 ha.2.1
  have s1 : SX a (mt_row σ 38 f) 1 := ha.2.1.same hn8 (fun c p q => mt_row_n (by omega))
  obtain ⟨l, e2⟩ := x_knLoop (s := s) (l := n) (m := m) (M := n) (g := σ (51 + s)) (by omega) hn (by omega) ha.1 ht hM 7 0 5000 (mt_row σ 38 f) (by omega) (by omega) s1 (fun k hk => by rw [mt_row_s]; exact u1 k hk) (by rw [mt_row_n (by omega)]; exact en) (fun k hk => by rw [mt_row_n (by omega)])
  have cc : ∀ c, 45 ≤ c → mt_row (mt_row σ 38 f) 37 l c = σ c := fun c hc => by rw [mt_row_n (by omega), mt_row_n (by omega)]
  obtain ⟨σ2, e3, f3⟩ := m_knLoop (s := s) (M := n) (g := σ (51 + s)) (kd := σ 57 (22 + 8 * t + 0)) (by omega) hn hy ha.1 ht 7 0 5000 (mt_row (mt_row σ 38 f) 37 l) (by omega) (by omega) ⟨σ 57 (22 + 8 * t + 0), by rw [cc 57 (by decide), upd_at]; exact ha.2.2⟩ (by rw [cc 65 (by decide), g2, en]) (fun k hk => by rw [cc 66 (by decide)]; exact g3 k hk)
  have hself : mt_row (mt_row (mt_row σ 38 f) 37 l) 57 (upd (mt_row (mt_row σ 38 f) 37 l 57) (22 + 8 * t + 0) (σ 57 (22 + 8 * t + 0))) = mt_row (mt_row σ 38 f) 37 l := by
    rw [cc 57 (by decide), upd_at, ← cc 57 (by decide), mt_row_same]
  rw [hself] at f3
  refine EV.quiet (r := knB a (σ (51 + s)) t n 7) h (σ1 := mt_row (mt_row σ 38 f) 37 l) (σ2 := σ2) ?_ ?_ ((quiet.row (by omega)).tr (quiet.row (by omega))) f3.quiet
  · show fX5_kinds 5000 σ (nI s) (nI t) = _
    unfold fX5_kinds
    rw [x_faultST h1 (by omega), pu_ask, if_neg h2, i7, h3, if_pos rfl, if_pos (by decide), pu_chkP (pu_in (show s < 4 by omega) (by decide)), nI_clamp (by omega), show 46 + 1 + s = 47 + s by omega, show (40 : Int32) = nI 40 from rfl, t1, pu_ask, e1, pu_call]
    exact e2
  · show fX6_kinds 5000 _ (nI s) (nI t) = _
    unfold fX6_kinds
    rw [m_isTreaty, pu_ask, m_lack3 _ h1 (by omega), pu_ask, cc 64 (by decide), g1, if_neg h2, cc 57 (by decide), i1, h3, if_pos rfl, if_pos rfl, m_at0, pu_ask, pu_chkP (pu_in (by omega) (by decide)), nI_clamp (by omega)]
    exact e3
