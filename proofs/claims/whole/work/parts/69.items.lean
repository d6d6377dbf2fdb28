/-! items of a text; s: whether it is wrong, and where -/
def mu (b : Nat → Nat) (n : Nat) (s : Bool × Nat) (q : Bool) : Bool × Nat := if s.1 = true then s else if q = true then (false, kE b n s.2) else (true, s.2)
def isNm (b : Nat → Nat) (n p lim : Nat) : Bool := decide (kS b n p = 2) && decide (kV b n p ≤ lim)
def nu (b : Nat → Nat) (n : Nat) (s : Bool × Nat) (lim : Nat) : Bool × Nat := mu b n s (isNm b n s.2 lim)
def ot (b : Nat → Nat) (n : Nat) (s : Bool × Nat) (v : Nat) : Bool × Nat := mu b n s (isNm b n s.2 5 && !decide (kV b n s.2 = v))
def tkw (b : Nat → Nat) (n : Nat) (s : Bool × Nat) (w : Nat) : Bool := !s.1 && isWd b n s.2 w
def aft (b : Nat → Nat) (n : Nat) (s : Bool × Nat) (w : Nat) : Bool × Nat := if tkw b n s w = true then (false, kE b n s.2) else s
def tm (b : Nat → Nat) (n : Nat) (s : Bool × Nat) (w lim : Nat) : Bool × Nat := if tkw b n s w = true then nu b n (aft b n s w) lim else s
theorem mu_t {b : Nat → Nat} {n : Nat} {s : Bool × Nat} {q : Bool} (h : s.1 = true) : mu b n s q = s := by unfold mu; rw [if_pos h]
theorem mu_f {b : Nat → Nat} {n : Nat} {s : Bool × Nat} (h : s.1 = false) : mu b n s false = (true, s.2) := by unfold mu; rw [if_neg (by rw [h]; decide), if_neg (by decide)]
theorem mu_y {b : Nat → Nat} {n : Nat} {s : Bool × Nat} (h : s.1 = false) : mu b n s true = (false, kE b n s.2) := by unfold mu; rw [if_neg (by rw [h]; decide), if_pos rfl]
theorem mu_ok {b : Nat → Nat} {n : Nat} {s : Bool × Nat} {q : Bool} (h : (mu b n s q).1 = false) : s.1 = false ∧ q = true := by
  cases h1 : s.1
  · cases q
    · rw [mu_f h1] at h; cases h
    · exact ⟨rfl, rfl⟩
  · rw [mu_t h1, h1] at h; cases h
theorem mu_le {b : Nat → Nat} {n : Nat} {s : Bool × Nat} {q : Bool} (hb : ∀ k, k < n → b k < 256) (h : s.2 ≤ n) : (mu b n s q).2 ≤ n ∧ s.2 ≤ (mu b n s q).2 := by
  have hE := kE_r hb h
  have hB := kB_r (b := b) h
  cases h1 : s.1
  · cases q
    · rw [mu_f h1]; exact ⟨h, Nat.le_refl _⟩
    · rw [mu_y h1]; exact ⟨hE.2.1, by show s.2 ≤ kE b n s.2; omega⟩
  · rw [mu_t h1]; exact ⟨h, Nat.le_refl _⟩
theorem tkw_ok {b : Nat → Nat} {n : Nat} {s : Bool × Nat} {w : Nat} (h : tkw b n s w = true) : s.1 = false ∧ isWd b n s.2 w = true := by
  unfold tkw at h
  rw [Bool.and_eq_true] at h
  exact ⟨by simpa using h.1, h.2⟩
theorem aft_ok {b : Nat → Nat} {n : Nat} {s : Bool × Nat} {w : Nat} (h : (aft b n s w).1 = false) : s.1 = false := by
  unfold aft at h
  by_cases q : tkw b n s w = true
  · exact (tkw_ok q).1
  · rw [if_neg q] at h; exact h
theorem aft_le {b : Nat → Nat} {n : Nat} {s : Bool × Nat} {w : Nat} (hb : ∀ k, k < n → b k < 256) (h : s.2 ≤ n) : (aft b n s w).2 ≤ n ∧ s.2 ≤ (aft b n s w).2 := by
  have hE := kE_r hb h
  have hB := kB_r (b := b) h
  unfold aft
  split
  · exact ⟨hE.2.1, by show s.2 ≤ kE b n s.2; omega⟩
  · exact ⟨h, Nat.le_refl _⟩
theorem tm_ok {b : Nat → Nat} {n : Nat} {s : Bool × Nat} {w lim : Nat} (h : (tm b n s w lim).1 = false) : s.1 = false ∧ (tkw b n s w = true → isNm b n (aft b n s w).2 lim = true) := by
  unfold tm at h
  by_cases q : tkw b n s w = true
  · rw [if_pos q] at h
    exact ⟨(tkw_ok q).1, fun _ => (mu_ok h).2⟩
  · rw [if_neg q] at h
    exact ⟨h, fun z => absurd z q⟩
theorem tm_le {b : Nat → Nat} {n : Nat} {s : Bool × Nat} {w lim : Nat} (hb : ∀ k, k < n → b k < 256) (h : s.2 ≤ n) : (tm b n s w lim).2 ≤ n ∧ s.2 ≤ (tm b n s w lim).2 := by
  unfold tm
  split
  · have h1 := aft_le (w := w) hb h
    have h2 := mu_le (q := isNm b n (aft b n s w).2 lim) hb h1.1
    exact ⟨h2.1, Nat.le_trans h1.2 h2.2⟩
  · exact ⟨h, Nat.le_refl _⟩
theorem isNm_r {b : Nat → Nat} {n p lim : Nat} (h : isNm b n p lim = true) : kS b n p = 2 ∧ kV b n p ≤ lim := by
  unfold isNm at h
  rw [Bool.and_eq_true, decide_eq_true_eq, decide_eq_true_eq] at h
  exact h
/-! a treaty's item -/
def q1 (b : Nat → Nat) (n c p : Nat) : Bool × Nat := mu b n (false, p) (decide (c < 8))
def q2 (b : Nat → Nat) (n c p : Nat) : Bool × Nat := nu b n (q1 b n c p) 5
def q3 (b : Nat → Nat) (n c p : Nat) : Bool × Nat := ot b n (q2 b n c p) (kV b n (q1 b n c p).2)
def q4 (b : Nat → Nat) (n c p : Nat) : Bool × Nat := tm b n (q3 b n c p) 7 4095
def q5 (b : Nat → Nat) (n c p : Nat) : Bool × Nat := tm b n (q4 b n c p) 8 9999
def q6 (b : Nat → Nat) (n c p : Nat) : Bool × Nat := aft b n (q5 b n c p) 9
def itM (b : Nat → Nat) (n c p : Nat) : Int32 := if tkw b n (q3 b n c p) 7 = true then nI (kV b n (aft b n (q3 b n c p) 7).2) else -1
def itH (b : Nat → Nat) (n c p : Nat) : Int32 := if tkw b n (q4 b n c p) 8 = true then nI (kV b n (aft b n (q4 b n c p) 8).2) else 0
def itF (b : Nat → Nat) (n c p : Nat) : Int32 := if tkw b n (q5 b n c p) 9 = true then 0 else 1
def it6 (x0 x1 x2 x3 x4 x5 : Int32) : Nat → Int32 := fun k => if k = 0 then x0 else if k = 1 then x1 else if k = 2 then x2 else if k = 3 then x3 else if k = 4 then x4 else x5
def rkd (b : Nat → Nat) (n p : Nat) : Nat → Int32
  | 0 => -1
  | k + 1 => if isWd b n p k = true then nI k else rkd b n p k
theorem rkd_c (b : Nat → Nat) (n p : Nat) : ∀ i, (∃ w, w < i ∧ isWd b n p w = true ∧ rkd b n p i = nI w) ∨ ((∀ w, w < i → isWd b n p w = false) ∧ rkd b n p i = -1) := by
  intro i
  induction i with
  | zero => exact Or.inr ⟨fun w h => by omega, rfl⟩
  | succ i ih =>
    have e : rkd b n p (i + 1) = if isWd b n p i = true then nI i else rkd b n p i := rfl
    cases q : isWd b n p i
    · rw [q, if_neg (by decide)] at e
      rcases ih with ⟨w, h1, h2, h3⟩ | ⟨h1, h2⟩
      · exact Or.inl ⟨w, by omega, h2, e.trans h3⟩
      · refine Or.inr ⟨fun w hw => ?_, e.trans h2⟩
        by_cases z : w = i
        · rw [z]; exact q
        · exact h1 w (by omega)
    · rw [q, if_pos rfl] at e
      exact Or.inl ⟨i, by omega, q, e⟩
def itS (b : Nat → Nat) (n c p : Nat) : Bool × Nat := if 0 ≤ rkd b n p 7 then q6 b n c p else if isWd b n p 10 = true then nu b n (false, kE b n p) 4095 else if isWd b n p 11 = true then nu b n (false, kE b n p) 4095 else if isWd b n p 12 = true then nu b n (nu b n (false, kE b n p) 5) 12 else (true, p)
def itI (b : Nat → Nat) (n c p : Nat) : Nat → Int32 := if 0 ≤ rkd b n p 7 then it6 (rkd b n p 7) (nI (kV b n (q1 b n c p).2)) (nI (kV b n (q2 b n c p).2)) (itM b n c p) (itH b n c p) (itF b n c p) else if isWd b n p 10 = true then it6 10 (nI (kV b n (kE b n p))) 0 0 0 0 else if isWd b n p 11 = true then it6 11 (nI (kV b n (kE b n p))) 0 0 0 0 else it6 12 (nI (kV b n (kE b n p))) (nI (kV b n (nu b n (false, kE b n p) 5).2)) 0 0 0
def itC (b : Nat → Nat) (n c p : Nat) : Nat := if 0 ≤ rkd b n p 7 then c + 1 else c
/-! the reference's steps -/
def KM (b : Nat → Nat) (n : Nat) (σ : mt_St) (s : Bool × Nat) : Prop := σ 56 12 = bN s.1 ∧ σ 56 8 = nI (kB b n s.2) ∧ (s.1 = false → σ 56 9 = nI (kE b n s.2) ∧ σ 56 10 = nI (min (kS b n s.2) 3) ∧ σ 56 11 = nI (min (kV b n s.2) 10000))
def st (σ σ' : mt_St) : Prop := (∀ c, c ≠ 56 → σ' c = σ c) ∧ ∀ k, k < 8 ∨ 12 < k → σ' 56 k = σ 56 k
theorem st.rf {σ : mt_St} : st σ σ := ⟨fun _ _ => rfl, fun _ _ => rfl⟩
theorem st.tr {σ σ' σ'' : mt_St} (h : st σ σ') (h2 : st σ' σ'') : st σ σ'' := ⟨fun c a => (h2.1 c a).trans (h.1 c a), fun k a => (h2.2 k a).trans (h.2 k a)⟩
theorem st.row {σ : mt_St} {g : Nat → Int32} (h : ∀ k, k < 8 ∨ 12 < k → g k = σ 56 k) : st σ (mt_row σ 56 g) := ⟨fun c a => mt_row_n a, fun k a => by rw [mt_row_s]; exact h k a⟩
theorem TM.st {b : Nat → Nat} {n : Nat} {σ σ' : mt_St} (h : TM b n σ) (q : st σ σ') : TM b n σ' := ⟨(q.2 7 (by omega)).trans h.1, fun k hk => by rw [q.1 61 (by decide)]; exact h.2 k hk⟩
theorem m_must {b : Nat → Nat} {n : Nat} {s : Bool × Nat} {σ : mt_St} (hn : n ≤ 120) (hb : ∀ k, k < n → b k < 256) (hT : TM b n σ) (hp : s.2 ≤ n) (hK : KM b n σ s) (q : Bool) : ∃ σ', fX6_must 5000 σ (bN q) = some ((), σ') ∧ KM b n σ' (mu b n s q) ∧ st σ σ' := by
  have wrong : ∃ σ', bX6_must_12 5000 σ = some ((), σ') ∧ KM b n σ' (true, s.2) ∧ st σ σ' := by
    refine ⟨mt_row σ 56 (upd (σ 56) 12 1), ?_, ⟨by rw [mt_row_s, pu_upd_s]; rfl, by rw [mt_row_s, pu_upd_n (by decide)]; exact hK.2.1, fun z => by cases z⟩, st.row (fun k hk => pu_upd_n (by omega))⟩
    unfold bX6_must_12 bX6_must_17 bX6_must_31
    rw [pu_b1, pu_chk, pu_bnd, pu_up, mt_row_s, pu_upd_s, if_neg i10']
  unfold fX6_must
  rw [hK.1]
  cases h1 : s.1
  · rw [bN_f, if_pos rfl]
    cases q
    · rw [bN_f, if_pos rfl, mu_f h1]
      exact wrong
    · rw [bN_t, if_neg i10', mu_y h1]
      obtain ⟨k9, k10, k11⟩ := hK.2.2 h1
      have hT1 : TM b n (mt_row σ 56 (upd (σ 56) 12 0)) := hT.row (pu_upd_n (by decide))
      obtain ⟨g, g1, g2, g3, g4, g5, g6⟩ := m_tok (p := kE b n s.2) hn hb (kE_r hb hp).2.1 hT1 (by rw [mt_row_s, pu_upd_n (by decide)]; exact k9)
      rw [pu_row_row] at g1
      unfold bX6_must_17 bX6_must_31
      rw [pu_b0, pu_chk, pu_bnd, pu_up, mt_row_s, pu_upd_s, if_pos rfl, g1, pu_call]
      refine ⟨_, rfl, ⟨?_, ?_, fun _ => ⟨?_, ?_, ?_⟩⟩, st.row (fun k hk => ?_)⟩
      · rw [mt_row_s, g6 12 (by omega), mt_row_s, pu_upd_s]; rfl
      · rw [mt_row_s]; exact g2
      · rw [mt_row_s]; exact g3
      · rw [mt_row_s]; exact g4
      · rw [mt_row_s]; exact g5
      · rw [g6 k (by omega), mt_row_s, pu_upd_n (by omega)]
  · rw [bN_t, if_neg i10', mu_t h1]
    have e : s = (true, s.2) := by rw [← h1]
    rw [e]
    exact wrong
theorem m_num {b : Nat → Nat} {n lim : Nat} {s : Bool × Nat} {σ : mt_St} (hn : n ≤ 120) (hb : ∀ k, k < n → b k < 256) (hT : TM b n σ) (hp : s.2 ≤ n) (hK : KM b n σ s) (hl : lim ≤ 9999) : ∃ v σ', fX6_number 5000 σ 0 (nI lim) = some (v, σ') ∧ KM b n σ' (nu b n s lim) ∧ st σ σ' ∧ (s.1 = false → v = nI (min (kV b n s.2) 10000)) := by
  have hS := kS_r b n s.2
  have key : ∀ q : Bool, (s.1 = false → q = isNm b n s.2 lim) → ∃ σ', (mt_call (fX6_must 5000 σ (bN q)) fun _ s2 => some (σ 56 11, s2)) = some (σ 56 11, σ') ∧ KM b n σ' (nu b n s lim) ∧ st σ σ' := by
    intro q hq
    obtain ⟨σ', h1, h2, h3⟩ := m_must hn hb hT hp hK q
    rw [h1, pu_call]
    refine ⟨σ', rfl, ?_, h3⟩
    unfold nu
    cases h4 : s.1
    · rw [← hq h4]; exact h2
    · rw [mu_t h4] at h2 ⊢; exact h2
  have fin : ∀ q : Bool, (s.1 = false → q = isNm b n s.2 lim) → fX6_number 5000 σ 0 (nI lim) = (mt_call (fX6_must 5000 σ (bN q)) fun _ s2 => some (σ 56 11, s2)) → ∃ v σ', fX6_number 5000 σ 0 (nI lim) = some (v, σ') ∧ KM b n σ' (nu b n s lim) ∧ st σ σ' ∧ (s.1 = false → v = nI (min (kV b n s.2) 10000)) := by
    intro q hq e
    obtain ⟨σ', h1, h2, h3⟩ := key q hq
    exact ⟨σ 56 11, σ', e.trans h1, h2, h3, fun z => (hK.2.2 z).2.2⟩
  by_cases c : σ 56 10 = 2
  · cases c2 : okR (σ 56 11) (nI lim)
    · refine fin false (fun z => ?_) ?_
      · obtain ⟨-, k10, k11⟩ := hK.2.2 z
        unfold isNm
        by_cases y : kV b n s.2 ≤ lim
        · rw [k11, Nat.min_eq_left (by omega), okR_of y (by omega)] at c2
          cases c2
        · rw [decide_eq_false y, Bool.and_false]
      · unfold fX6_number bX6_number_27 bX6_number_28
        rw [if_pos c, m_win, pu_ask, c2, bN_f, if_pos rfl]
    · refine fin true (fun z => ?_) ?_
      · obtain ⟨-, k10, k11⟩ := hK.2.2 z
        unfold isNm
        rw [k10] at c
        have e2 : kS b n s.2 = 2 := by have := nI_inj (i := min (kS b n s.2) 3) (t := 2) (by omega) (by omega) c; omega
        rw [k11] at c2
        obtain ⟨j, hj, ej⟩ := okR_nI (by omega) c2
        have := nI_inj (by omega) (by omega) ej
        rw [decide_eq_true e2, decide_eq_true (show kV b n s.2 ≤ lim by omega)]
        rfl
      · unfold fX6_number bX6_number_28
        rw [if_pos c, m_win, pu_ask, c2, bN_t, if_neg i10']
  · refine fin false (fun z => ?_) ?_
    · obtain ⟨-, k10, k11⟩ := hK.2.2 z
      unfold isNm
      by_cases y : kS b n s.2 = 2
      · rw [k10, y] at c; exact absurd rfl c
      · rw [decide_eq_false y, Bool.false_and]
    · unfold fX6_number bX6_number_27 bX6_number_28
      rw [if_neg c]
      rfl
theorem m_oth {b : Nat → Nat} {n v : Nat} {x : Int32} {s : Bool × Nat} {σ : mt_St} (hn : n ≤ 120) (hb : ∀ k, k < n → b k < 256) (hT : TM b n σ) (hp : s.2 ≤ n) (hK : KM b n σ s) (hv : s.1 = false → x = nI v ∧ v ≤ 5) : ∃ r σ', fX6_otherThan 5000 σ x = some (r, σ') ∧ KM b n σ' (ot b n s v) ∧ st σ σ' ∧ (s.1 = false → r = nI (min (kV b n s.2) 10000)) := by
  have hS := kS_r b n s.2
  have fin : ∀ q : Bool, (s.1 = false → q = (isNm b n s.2 5 && !decide (kV b n s.2 = v))) → fX6_otherThan 5000 σ x = (mt_call (fX6_must 5000 σ (bN q)) fun _ s2 => some (σ 56 11, s2)) → ∃ r σ', fX6_otherThan 5000 σ x = some (r, σ') ∧ KM b n σ' (ot b n s v) ∧ st σ σ' ∧ (s.1 = false → r = nI (min (kV b n s.2) 10000)) := by
    intro q hq e
    obtain ⟨σ', h1, h2, h3⟩ := m_must hn hb hT hp hK q
    rw [h1, pu_call] at e
    refine ⟨σ 56 11, σ', e, ?_, h3, fun z => (hK.2.2 z).2.2⟩
    unfold ot
    cases h4 : s.1
    · rw [← hq h4]; exact h2
    · rw [mu_t h4] at h2 ⊢; exact h2
  by_cases c : σ 56 10 = 2
  · cases c2 : okR (σ 56 11) 5
    · refine fin false (fun z => ?_) ?_
      · obtain ⟨-, k10, k11⟩ := hK.2.2 z
        unfold isNm
        by_cases y : kV b n s.2 ≤ 5
        · rw [k11, Nat.min_eq_left (by omega), show okR (nI (kV b n s.2)) 5 = true from okR_of (m := 5) y (by omega)] at c2
          cases c2
        · rw [decide_eq_false y, Bool.and_false, Bool.false_and]
      · unfold fX6_otherThan bX6_otherThan_32 bX6_otherThan_33
        rw [if_pos c, m_win, pu_ask, c2, bN_f, if_pos rfl]
    · by_cases c3 : σ 56 11 = x
      · refine fin false (fun z => ?_) ?_
        · obtain ⟨-, k10, k11⟩ := hK.2.2 z
          obtain ⟨e1, e2⟩ := hv z
          rw [k11, e1] at c3
          have := nI_inj (by omega) (by omega) c3
          rw [decide_eq_true (show kV b n s.2 = v by omega), Bool.not_true, Bool.and_false]
        · unfold fX6_otherThan bX6_otherThan_32 bX6_otherThan_33
          rw [if_pos c, m_win, pu_ask, c2, bN_t, if_neg i10', if_pos c3]
          rfl
      · refine fin true (fun z => ?_) ?_
        · obtain ⟨-, k10, k11⟩ := hK.2.2 z
          obtain ⟨e1, e2⟩ := hv z
          unfold isNm
          rw [k10] at c
          have e2 : kS b n s.2 = 2 := by have := nI_inj (i := min (kS b n s.2) 3) (t := 2) (by omega) (by omega) c; omega
          rw [k11] at c2 c3
          obtain ⟨j, hj, ej⟩ := okR_nI (m := 5) (by omega) c2
          have hj2 := nI_inj (by omega) (by omega) ej
          have e3 : ¬ kV b n s.2 = v := fun y => c3 (by rw [e1, ← y, Nat.min_eq_left (by omega)])
          rw [decide_eq_true e2, decide_eq_true (show kV b n s.2 ≤ 5 by omega), decide_eq_false e3]
          rfl
        · unfold fX6_otherThan bX6_otherThan_33
          rw [if_pos c, m_win, pu_ask, c2, bN_t, if_neg i10', if_neg c3]
  · refine fin false (fun z => ?_) ?_
    · obtain ⟨-, k10, k11⟩ := hK.2.2 z
      unfold isNm
      by_cases y : kS b n s.2 = 2
      · rw [k10, y] at c; exact absurd rfl c
      · rw [decide_eq_false y, Bool.false_and, Bool.false_and]
    · unfold fX6_otherThan bX6_otherThan_32 bX6_otherThan_33
      rw [if_neg c]
      rfl
theorem m_tkw {b : Nat → Nat} {n w : Nat} {s : Bool × Nat} {σ : mt_St} (hn : n ≤ 120) (hb : ∀ k, k < n → b k < 256) (hT : TM b n σ) (hp : s.2 ≤ n) (hK : KM b n σ s) (hw : w < 13) : ∃ σ', fX6_takesWord 5000 σ w = some (bN (tkw b n s w), σ') ∧ KM b n σ' (aft b n s w) ∧ st σ σ' := by
  unfold fX6_takesWord bX6_takesWord_19
  rw [hK.1]
  have no : tkw b n s w = false → ∃ σ', bX6_takesWord_20 5000 w σ 0 = some (bN (tkw b n s w), σ') ∧ KM b n σ' (aft b n s w) ∧ st σ σ' := by
    intro h
    refine ⟨σ, ?_, ?_, st.rf⟩
    · rw [h]
      unfold bX6_takesWord_20 bX6_takesWord_30
      rw [if_pos rfl]
      rfl
    · unfold aft
      rw [h, if_neg (by decide)]
      exact hK
  cases h1 : s.1
  · obtain ⟨k9, k10, k11⟩ := hK.2.2 h1
    rw [bN_f, if_pos rfl, m_isWd hn hb hp hw hT hK.2.1 k9 k10, pu_ask]
    cases h2 : isWd b n s.2 w
    · rw [bN_f, if_pos rfl]
      exact no (by unfold tkw; rw [h2, Bool.and_false])
    · have ht : tkw b n s w = true := by unfold tkw; rw [h1, h2]; rfl
      obtain ⟨σ', g1, g2, g3⟩ := m_must hn hb hT hp hK true
      rw [bN_t, if_neg i10', ht]
      unfold bX6_takesWord_20 bX6_takesWord_30
      rw [bN_t] at g1
      rw [if_neg i10', g1, pu_call, pu_b1, pu_chk]
      refine ⟨σ', rfl, ?_, g3⟩
      unfold aft
      rw [ht, if_pos rfl, ← mu_y h1]
      exact g2
  · rw [bN_t, if_neg i10']
    exact no (by unfold tkw; rw [h1]; rfl)
theorem m_add {σ : mt_St} {i : Nat} {x0 x1 x2 x3 x4 x5 : Int32} (hi : i ≤ 100) (h : σ 56 15 = nI i) : ∃ f, fX6_addItem 5000 σ x0 x1 x2 x3 x4 x5 = some ((), mt_row (mt_row σ 63 f) 56 (upd (σ 56) 15 (nI (i + 1)))) ∧ (∀ k, k < 6 → f (6 * i + k) = it6 x0 x1 x2 x3 x4 x5 k) ∧ ∀ k, k < 6 * i → f k = σ 63 k := by
  have e6 : (6 : Int32) * nI i = nI (6 * i) := pk_mul 6 i
  have ek : ∀ k : Nat, nI (6 * i) + nI k = nI (6 * i + k) := fun k => nI_add _ _
  unfold fX6_addItem
  rw [h, e6, show (1 : Int32) = nI 1 from rfl, show (2 : Int32) = nI 2 from rfl, show (3 : Int32) = nI 3 from rfl, show (4 : Int32) = nI 4 from rfl, show (5 : Int32) = nI 5 from rfl, ek, ek, ek, ek, ek]
  rw [pu_chkP (pu_in (by omega) (by decide)), pu_bnd, pu_chkP (pu_in (by omega) (by decide)), pu_bnd, pu_chkP (pu_in (by omega) (by decide)), pu_bnd, pu_chkP (pu_in (by omega) (by decide)), pu_bnd, pu_chkP (pu_in (by omega) (by decide)), pu_bnd, pu_chkP (pu_in (by omega) (by decide)), pu_bnd, pu_bnd]
  rw [nI_clamp (by omega), nI_clamp (by omega), nI_clamp (by omega), nI_clamp (by omega), nI_clamp (by omega), nI_clamp (by omega)]
  simp only [pu_up, mt_row_s, pu_row_row, mt_row_n (show 56 ≠ 63 by decide), h]
  rw [nI_add]
  refine ⟨_, rfl, fun k hk => ?_, fun k hk => ?_⟩
  · unfold it6
    rcases (show k = 0 ∨ k = 1 ∨ k = 2 ∨ k = 3 ∨ k = 4 ∨ k = 5 by omega) with rfl | rfl | rfl | rfl | rfl | rfl
    · rw [pu_upd_n (by omega), pu_upd_n (by omega), pu_upd_n (by omega), pu_upd_n (by omega), pu_upd_n (by omega)]
      exact pu_upd_s _ _ _
    · rw [pu_upd_n (by omega), pu_upd_n (by omega), pu_upd_n (by omega), pu_upd_n (by omega)]
      exact pu_upd_s _ _ _
    · rw [pu_upd_n (by omega), pu_upd_n (by omega), pu_upd_n (by omega)]
      exact pu_upd_s _ _ _
    · rw [pu_upd_n (by omega), pu_upd_n (by omega)]
      exact pu_upd_s _ _ _
    · rw [pu_upd_n (by omega)]
      exact pu_upd_s _ _ _
    · exact pu_upd_s _ _ _
  · rw [pu_upd_n (by omega), pu_upd_n (by omega), pu_upd_n (by omega), pu_upd_n (by omega), pu_upd_n (by omega), pu_upd_n (by omega)]
