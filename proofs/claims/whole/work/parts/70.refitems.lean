/-! the reference reads an item -/
def frP (σ σ' : mt_St) : Prop := (∀ c, c ≠ 56 → c ≠ 63 → σ' c = σ c) ∧ ∀ k, k < 8 ∨ 16 < k ∨ k = 13 ∨ k = 14 → σ' 56 k = σ 56 k
theorem frP.tr {σ σ' σ'' : mt_St} (h : frP σ σ') (h2 : frP σ' σ'') : frP σ σ'' := ⟨fun c a d => (h2.1 c a d).trans (h.1 c a d), fun k a => (h2.2 k a).trans (h.2 k a)⟩
theorem st.frP {σ σ' : mt_St} (h : st σ σ') : frP σ σ' := ⟨fun c a _ => h.1 c a, fun k a => h.2 k (by omega)⟩
theorem m_tm {α : Type} {b : Nat → Nat} {n w lim : Nat} {L d : Int32} {s : Bool × Nat} {σ : mt_St} (k : mt_St → Int32 → Option α) (hn : n ≤ 120) (hb : ∀ k, k < n → b k < 256) (hT : TM b n σ) (hp : s.2 ≤ n) (hK : KM b n σ s) (hw : w < 13) (hl : lim ≤ 9999) (hL : L = nI lim) : ∃ v σ', (mt_call (fX6_takesWord 5000 σ w) fun r s2 => if r = 0 then k s2 d else mt_call (fX6_number 5000 s2 0 L) fun x s4 => k s4 x) = k σ' v ∧ KM b n σ' (tm b n s w lim) ∧ st σ σ' ∧ ((tm b n s w lim).1 = false → v = if tkw b n s w = true then nI (kV b n (aft b n s w).2) else d) := by
  obtain ⟨σ1, g1, g2, g3⟩ := m_tkw (w := w) hn hb hT hp hK hw
  rw [g1, pu_call, hL]
  have hp1 := aft_le (w := w) hb hp
  unfold tm
  cases q : tkw b n s w
  · rw [bN_f, if_pos rfl, if_neg (by decide), if_neg (by decide)]
    refine ⟨d, σ1, rfl, ?_, g3, fun _ => rfl⟩
    unfold aft at g2
    rw [q, if_neg (by decide)] at g2
    exact g2
  · obtain ⟨v, σ2, h1, h2, h3, h4⟩ := m_num (lim := lim) hn hb (hT.st g3) hp1.1 g2 hl
    rw [bN_t, if_neg i10', if_pos rfl, if_pos rfl, h1, pu_call]
    refine ⟨v, σ2, rfl, h2, g3.tr h3, fun z => ?_⟩
    obtain ⟨z1, z2⟩ := mu_ok z
    have := (isNm_r z2).2
    rw [h4 z1, Nat.min_eq_left (by omega)]
theorem m_treaty {b : Nat → Nat} {n c p i : Nat} {w : Int32} {σ : mt_St} (hn : n ≤ 120) (hb : ∀ k, k < n → b k < 256) (hT : TM b n σ) (hp : p ≤ n) (hK : KM b n σ (false, p)) (hc : c ≤ 8) (h16 : σ 56 16 = nI c) (hi : i ≤ 100) (h15 : σ 56 15 = nI i) : ∃ σ', fX6_readTreaty 5000 σ w = some ((), σ') ∧ frP σ σ' ∧ KM b n σ' (q6 b n c p) ∧ σ' 56 15 = nI (i + 1) ∧ σ' 56 16 = nI (c + 1) ∧ (∀ k, k < 6 * i → σ' 63 k = σ 63 k) ∧ ((q6 b n c p).1 = false → ∀ k, k < 6 → σ' 63 (6 * i + k) = it6 w (nI (kV b n (q1 b n c p).2)) (nI (kV b n (q2 b n c p).2)) (itM b n c p) (itH b n c p) (itF b n c p) k) := by
  have l1 : (q1 b n c p).2 ≤ n := (mu_le hb hp).1
  have l2 : (q2 b n c p).2 ≤ n := (mu_le hb l1).1
  have l3 : (q3 b n c p).2 ≤ n := (mu_le hb l2).1
  have l4 : (q4 b n c p).2 ≤ n := (tm_le hb l3).1
  have l5 : (q5 b n c p).2 ≤ n := (tm_le hb l4).1
  obtain ⟨σ1, a1, a2, a3⟩ := m_must hn hb hT hp hK (decide (c < 8))
  have T1 := hT.st a3
  obtain ⟨v2, σ2, b1, b2, b3, b4⟩ := m_num (lim := 5) hn hb T1 l1 a2 (by omega)
  have T2 := T1.st b3
  have hv : (q2 b n c p).1 = false → v2 = nI (kV b n (q1 b n c p).2) ∧ kV b n (q1 b n c p).2 ≤ 5 := fun z => by
    obtain ⟨z1, z2⟩ := mu_ok z
    have z3 := (isNm_r z2).2
    rw [b4 z1]
    show nI (min (kV b n (q1 b n c p).2) 10000) = _ ∧ _
    rw [Nat.min_eq_left (by omega)]
    exact ⟨rfl, z3⟩
  obtain ⟨v3, σ3, c1, c2, c3, c4⟩ := m_oth (x := v2) (v := kV b n (q1 b n c p).2) hn hb T2 l2 b2 hv
  have T3 := T2.st c3
  obtain ⟨v4, σ4, d1, d2, d3, d4⟩ := m_tm (w := 7) (lim := 4095) (L := 4095) (d := -1) (s := q3 b n c p) (fun s x => bX6_readTreaty_53 5000 s w v2 v3 x) hn hb T3 l3 c2 (by decide) (by decide) rfl
  have T4 := T3.st d3
  obtain ⟨v5, σ5, e1, e2, e3, e4⟩ := m_tm (w := 8) (lim := 9999) (L := 9999) (d := 0) (s := q4 b n c p) (fun s x => bX6_readTreaty_77 5000 s w v2 v3 v4 x) hn hb T4 l4 d2 (by decide) (by decide) rfl
  have T5 := T4.st e3
  obtain ⟨σ6, f1, f2, f3⟩ := m_tkw (w := 9) (s := q5 b n c p) hn hb T5 l5 e2 (by decide)
  have S : st σ σ6 := ((((a3.tr b3).tr c3).tr d3).tr e3).tr f3
  have i15 : σ6 56 15 = nI i := (S.2 15 (by omega)).trans h15
  have i16 : σ6 56 16 = nI c := (S.2 16 (by omega)).trans h16
  have i63 : σ6 63 = σ 63 := S.1 63 (by decide)
  have fin : ∀ x : Int32, ((q6 b n c p).1 = false → x = itF b n c p) → ∃ σ', bX6_readTreaty_102 5000 σ6 x v5 v4 v3 v2 w = some ((), σ') ∧ frP σ σ' ∧ KM b n σ' (q6 b n c p) ∧ σ' 56 15 = nI (i + 1) ∧ σ' 56 16 = nI (c + 1) ∧ (∀ k, k < 6 * i → σ' 63 k = σ 63 k) ∧ ((q6 b n c p).1 = false → ∀ k, k < 6 → σ' 63 (6 * i + k) = it6 w (nI (kV b n (q1 b n c p).2)) (nI (kV b n (q2 b n c p).2)) (itM b n c p) (itH b n c p) (itF b n c p) k) := by
    intro x hx
    obtain ⟨f, g1, g2, g3⟩ := m_add (x0 := w) (x1 := v2) (x2 := v3) (x3 := v4) (x4 := v5) (x5 := x) hi i15
    unfold bX6_readTreaty_102
    rw [g1, pu_call, pu_bnd, mt_row_s, row_up, pu_upd_n (show 16 ≠ 15 by decide), i16, nI_1]
    refine ⟨_, rfl, ⟨fun c' h1 h2 => ?_, fun k hk => ?_⟩, ⟨?_, ?_, fun z => ⟨?_, ?_, ?_⟩⟩, ?_, ?_, fun k hk => ?_, fun z k hk => ?_⟩
    · rw [mt_row_n h1, mt_row_n h2]; exact S.1 c' h1
    · rw [mt_row_s, pu_upd_n (by omega), pu_upd_n (by omega)]; exact S.2 k (by omega)
    · rw [mt_row_s, pu_upd_n (by decide), pu_upd_n (by decide)]; exact f2.1
    · rw [mt_row_s, pu_upd_n (by decide), pu_upd_n (by decide)]; exact f2.2.1
    · rw [mt_row_s, pu_upd_n (by decide), pu_upd_n (by decide)]; exact (f2.2.2 z).1
    · rw [mt_row_s, pu_upd_n (by decide), pu_upd_n (by decide)]; exact (f2.2.2 z).2.1
    · rw [mt_row_s, pu_upd_n (by decide), pu_upd_n (by decide)]; exact (f2.2.2 z).2.2
    · rw [mt_row_s, pu_upd_n (by decide), pu_upd_s]
    · rw [mt_row_s, pu_upd_s]
    · rw [mt_row_n (by decide), mt_row_s, g3 k hk, i63]
    · have z5 : (q5 b n c p).1 = false := aft_ok z
      have z4 : (q4 b n c p).1 = false := (tm_ok z5).1
      have z3 : (q3 b n c p).1 = false := (tm_ok z4).1
      obtain ⟨z2, y2⟩ := mu_ok z3
      rw [mt_row_n (by decide), mt_row_s, g2 k hk, hx z]
      have x1 := (hv z2).1
      have x2 : v3 = nI (kV b n (q2 b n c p).2) := by
        rw [Bool.and_eq_true] at y2
        have := (isNm_r y2.1).2
        rw [c4 z2, Nat.min_eq_left (by omega)]
      have x3 : v4 = itM b n c p := d4 z4
      have x4 : v5 = itH b n c p := e4 z5
      rw [x1, x2, x3, x4]
  have main : bX6_readTreaty_15 5000 σ w (bN (decide (c < 8))) = bX6_readTreaty_77 5000 σ5 w v2 v3 v4 v5 := by
    unfold bX6_readTreaty_15
    rw [a1, pu_call, show (5 : Int32) = nI 5 from rfl, b1, pu_call, c1, pu_call]
    refine d1.trans ?_
    show bX6_readTreaty_53 5000 σ4 w v2 v3 v4 = _
    unfold bX6_readTreaty_53
    exact e1
  have e0 : fX6_readTreaty 5000 σ w = bX6_readTreaty_77 5000 σ5 w v2 v3 v4 v5 := by
    rw [← main]
    unfold fX6_readTreaty
    rw [h16]
    by_cases z : c < 8
    · rw [if_neg (show ¬ (8 : Int32) ≤ nI c from nI_ge (b := 8) z (by decide)), decide_eq_true z]; rfl
    · rw [if_pos (show (8 : Int32) ≤ nI c from nI_le (a := 8) (by omega) (by omega)), decide_eq_false z]; rfl
  rw [e0]
  unfold bX6_readTreaty_77
  rw [f1, pu_call]
  cases q : tkw b n (q5 b n c p) 9
  · rw [bN_f, if_pos rfl]
    exact fin 1 (fun _ => by unfold itF; rw [q, if_neg (by decide)])
  · rw [bN_t, if_neg i10']
    exact fin 0 (fun _ => by unfold itF; rw [q, if_pos rfl])
theorem m_kindLoop {b : Nat → Nat} {n p : Nat} {σ : mt_St} (hn : n ≤ 120) (hb : ∀ k, k < n → b k < 256) (hT : TM b n σ) (hp : p ≤ n) (hK : KM b n σ (false, p)) : ∀ (d i fuel : Nat), 7 = i + d → d < fuel → ∃ fuel', bX6_readItem_4 5000 fuel σ (rkd b n p i) (nI i) = bX6_readItem_4 5000 (fuel' + 1) σ (rkd b n p 7) (nI 7) := by
  obtain ⟨k9, k10, k11⟩ := hK.2.2 rfl
  intro d
  induction d with
  | zero =>
    intro i fuel hd hf
    obtain ⟨fuel, rfl⟩ : ∃ q, fuel = q + 1 := ⟨fuel - 1, by omega⟩
    have : i = 7 := by omega
    subst this
    exact ⟨fuel, rfl⟩
  | succ d ih =>
    intro i fuel hd hf
    obtain ⟨fuel, rfl⟩ : ∃ q, fuel = q + 1 := ⟨fuel - 1, by omega⟩
    obtain ⟨fuel', e⟩ := ih (i + 1) fuel (by omega) (by omega)
    refine ⟨fuel', ?_⟩
    rw [← e]
    have er : rkd b n p (i + 1) = if isWd b n p i = true then nI i else rkd b n p i := rfl
    rw [er]
    conv => lhs; unfold bX6_readItem_4 bX6_readItem_31
    rw [if_neg (show ¬ (7 : Int32) ≤ nI i from nI_ge (b := 7) (by omega) (by decide)), pu_chkP (pu_in (by omega) (by decide)), nI_clamp (by omega), m_isWd hn hb hp (show i < 13 by omega) hT hK.2.1 k9 k10, pu_ask, nI_1]
    cases q : isWd b n p i
    · rw [bN_f, if_pos rfl, if_neg (by decide)]
    · rw [bN_t, if_neg i10', if_pos rfl]
theorem m_item {b : Nat → Nat} {n c p i : Nat} {σ : mt_St} (hn : n ≤ 120) (hb : ∀ k, k < n → b k < 256) (hT : TM b n σ) (hp : p ≤ n) (hK : KM b n σ (false, p)) (hc : c ≤ 8) (h16 : σ 56 16 = nI c) (hi : i ≤ 100) (h15 : σ 56 15 = nI i) : ∃ σ', fX6_readItem 5000 σ = some ((), σ') ∧ frP σ σ' ∧ KM b n σ' (itS b n c p) ∧ ((itS b n c p).1 = false → σ' 56 15 = nI (i + 1) ∧ σ' 56 16 = nI (itC b n c p) ∧ (∀ k, k < 6 * i → σ' 63 k = σ 63 k) ∧ ∀ k, k < 6 → σ' 63 (6 * i + k) = itI b n c p k) := by
  obtain ⟨fuel', e⟩ := m_kindLoop hn hb hT hp hK 7 0 5000 (by omega) (by omega)
  have e0 : fX6_readItem 5000 σ = bX6_readItem_4 5000 (fuel' + 1) σ (rkd b n p 7) (nI 7) := by
    rw [← e]; rfl
  rw [e0]
  unfold bX6_readItem_4 bX6_readItem_154
  rw [if_pos (show (7 : Int32) ≤ nI 7 by decide)]
  rcases rkd_c b n p 7 with ⟨w, hw, h1, h2⟩ | ⟨h1, h2⟩
  · obtain ⟨σ', g1, g2, g3, g4, g5, g6, g7⟩ := m_treaty (w := nI w) hn hb hT hp hK hc h16 hi h15
    have hr : 0 ≤ rkd b n p 7 := by rw [h2]; exact nI_le (a := 0) (by omega) (by omega)
    unfold itS itC itI
    rw [if_pos hr, if_pos hr, if_pos hr, h2, if_neg (nI_pos (by omega)), g1, pu_call]
    exact ⟨σ', rfl, g2, g3, fun z => ⟨g4, g5, g6, g7 z⟩⟩
  · have hr : ¬ 0 ≤ rkd b n p 7 := by rw [h2]; decide
    have tw : ∀ w, tkw b n (false, p) w = isWd b n p w := fun w => rfl
    unfold itS itC itI
    rw [if_neg hr, if_neg hr, if_neg hr, h2, if_pos (by decide)]
    have lE := (kE_r hb hp).2.1
    have one : ∀ (x : Int32) (τ : mt_St), KM b n τ (false, kE b n p) → st σ τ → ∃ σ', (mt_call (fX6_number 5000 τ 0 4095) fun r19 s20 => mt_call (fX6_addItem 5000 s20 x r19 (0 : Int32) (0 : Int32) (0 : Int32) (0 : Int32)) fun _ s22 => some ((), s22)) = some ((), σ') ∧ frP σ σ' ∧ KM b n σ' (nu b n (false, kE b n p) 4095) ∧ ((nu b n (false, kE b n p) 4095).1 = false → σ' 56 15 = nI (i + 1) ∧ σ' 56 16 = nI c ∧ (∀ k, k < 6 * i → σ' 63 k = σ 63 k) ∧ ∀ k, k < 6 → σ' 63 (6 * i + k) = it6 x (nI (kV b n (kE b n p))) 0 0 0 0 k) := by
      intro x τ hτ hS
      obtain ⟨v, σ2, b1, b2, b3, b4⟩ := m_num (lim := 4095) hn hb (hT.st hS) lE hτ (by omega)
      have S := hS.tr b3
      obtain ⟨f, g1, g2, g3⟩ := m_add (σ := σ2) (x0 := x) (x1 := v) (x2 := 0) (x3 := 0) (x4 := 0) (x5 := 0) hi ((S.2 15 (by omega)).trans h15)
      rw [show (4095 : Int32) = nI 4095 from rfl, b1, pu_call, g1, pu_call]
      refine ⟨_, rfl, ⟨fun c' h1 h2 => ?_, fun k hk => ?_⟩, ⟨?_, ?_, fun z => ⟨?_, ?_, ?_⟩⟩, fun z => ⟨?_, ?_, fun k hk => ?_, fun k hk => ?_⟩⟩
      · rw [mt_row_n h1, mt_row_n h2]; exact S.1 c' h1
      · rw [mt_row_s, pu_upd_n (by omega)]; exact S.2 k (by omega)
      · rw [mt_row_s, pu_upd_n (by decide)]; exact b2.1
      · rw [mt_row_s, pu_upd_n (by decide)]; exact b2.2.1
      · rw [mt_row_s, pu_upd_n (by decide)]; exact (b2.2.2 z).1
      · rw [mt_row_s, pu_upd_n (by decide)]; exact (b2.2.2 z).2.1
      · rw [mt_row_s, pu_upd_n (by decide)]; exact (b2.2.2 z).2.2
      · rw [mt_row_s, pu_upd_s]
      · rw [mt_row_s, pu_upd_n (by decide)]; exact (S.2 16 (by omega)).trans h16
      · rw [mt_row_n (by decide), mt_row_s, g3 k hk, S.1 63 (by decide)]
      · rw [mt_row_n (by decide), mt_row_s, g2 k hk]
        have y := (isNm_r (mu_ok z).2).2
        rw [b4 rfl, Nat.min_eq_left (by omega)]
    obtain ⟨σ1, a1, a2, a3⟩ := m_tkw (w := 10) hn hb hT hp hK (by decide)
    rw [a1, pu_call, tw]
    unfold aft at a2
    rw [tw] at a2
    cases w10 : isWd b n p 10
    · rw [w10, if_neg (by decide)] at a2
      have T1 := hT.st a3
      obtain ⟨σ2, b1, b2, b3⟩ := m_tkw (w := 11) hn hb T1 hp a2 (by decide)
      rw [bN_f, if_pos rfl, if_neg (show ¬ false = true by decide), if_neg (show ¬ false = true by decide), b1, pu_call, tw]
      unfold aft at b2
      rw [tw] at b2
      cases w11 : isWd b n p 11
      · rw [w11, if_neg (by decide)] at b2
        have T2 := T1.st b3
        obtain ⟨σ3, c1, c2, c3⟩ := m_tkw (w := 12) hn hb T2 hp b2 (by decide)
        rw [bN_f, if_pos rfl, if_neg (show ¬ false = true by decide), if_neg (show ¬ false = true by decide), c1, pu_call, tw]
        unfold aft at c2
        rw [tw] at c2
        have S3 := (a3.tr b3).tr c3
        cases w12 : isWd b n p 12
        · rw [w12, if_neg (by decide)] at c2
          have T3 := T2.st c3
          obtain ⟨σ4, d1, d2, d3⟩ := m_must hn hb T3 hp c2 false
          rw [bN_f] at d1
          rw [bN_f, if_pos rfl, if_neg (show ¬ false = true by decide), d1, pu_call]
          rw [mu_f rfl] at d2
          exact ⟨σ4, rfl, (S3.tr d3).frP, d2, fun z => by cases z⟩
        · rw [w12, if_pos rfl] at c2
          have T3 := T2.st c3
          obtain ⟨v, σ4, d1, d2, d3, d4⟩ := m_num (lim := 5) hn hb T3 lE c2 (by omega)
          have T4 := T3.st d3
          have l2 : (nu b n (false, kE b n p) 5).2 ≤ n := (mu_le hb lE).1
          obtain ⟨v', σ5, e1, e2, e3, e4⟩ := m_num (lim := 12) hn hb T4 l2 d2 (by omega)
          have S := (S3.tr d3).tr e3
          obtain ⟨f, g1, g2, g3⟩ := m_add (σ := σ5) (x0 := 12) (x1 := v) (x2 := v') (x3 := 0) (x4 := 0) (x5 := 0) hi ((S.2 15 (by omega)).trans h15)
          have e1' : fX6_number 5000 σ4 0 12 = some (v', σ5) := e1
          have d1' : fX6_number 5000 σ3 0 5 = some (v, σ4) := d1
          rw [bN_t, if_neg i10', if_pos rfl, d1', pu_call, e1', pu_call, g1, pu_call]
          refine ⟨_, rfl, ⟨fun c' h1 h2 => ?_, fun k hk => ?_⟩, ⟨?_, ?_, fun z => ⟨?_, ?_, ?_⟩⟩, fun z => ⟨?_, ?_, fun k hk => ?_, fun k hk => ?_⟩⟩
          · rw [mt_row_n h1, mt_row_n h2]; exact S.1 c' h1
          · rw [mt_row_s, pu_upd_n (by omega)]; exact S.2 k (by omega)
          · rw [mt_row_s, pu_upd_n (by decide)]; exact e2.1
          · rw [mt_row_s, pu_upd_n (by decide)]; exact e2.2.1
          · rw [mt_row_s, pu_upd_n (by decide)]; exact (e2.2.2 z).1
          · rw [mt_row_s, pu_upd_n (by decide)]; exact (e2.2.2 z).2.1
          · rw [mt_row_s, pu_upd_n (by decide)]; exact (e2.2.2 z).2.2
          · rw [mt_row_s, pu_upd_s]
          · rw [mt_row_s, pu_upd_n (by decide)]; exact (S.2 16 (by omega)).trans h16
          · rw [mt_row_n (by decide), mt_row_s, g3 k hk, S.1 63 (by decide)]
          · rw [mt_row_n (by decide), mt_row_s, g2 k hk]
            obtain ⟨z1, z2⟩ := mu_ok z
            have y1 := (isNm_r z2).2
            have y2 := (isNm_r (mu_ok z1).2).2
            have y2' : kV b n (kE b n p) ≤ 5 := y2
            have d5 : v = nI (min (kV b n (kE b n p)) 10000) := d4 rfl
            rw [d5, e4 z1, Nat.min_eq_left (show kV b n (kE b n p) ≤ 10000 by omega), Nat.min_eq_left (by omega)]
      · rw [w11, if_pos rfl] at b2
        rw [bN_t, if_neg i10', if_pos rfl, if_pos rfl]
        exact one 11 σ2 b2 (a3.tr b3)
    · rw [w10, if_pos rfl] at a2
      rw [bN_t, if_neg i10', if_pos rfl, if_pos rfl]
      exact one 10 σ1 a2 a3
