/-! the reference reads a token -/
def TM (b : Nat → Nat) (n : Nat) (σ : mt_St) : Prop := σ 56 7 = nI n ∧ ∀ k, k < n → σ 61 k = nI (b k)
theorem TM.row {b : Nat → Nat} {n : Nat} {σ : mt_St} {g : Nat → Int32} (h : TM b n σ) (hg : g 7 = σ 56 7) : TM b n (mt_row σ 56 g) := ⟨by rw [mt_row_s, hg]; exact h.1, fun k hk => by rw [mt_row_n (by decide)]; exact h.2 k hk⟩
theorem m_byte {b : Nat → Nat} {n p : Nat} {σ : mt_St} (hn : n ≤ 120) (hp : p ≤ n) (hT : TM b n σ) : fX6_byteAt 5000 σ (nI p) = some (if n ≤ p then -1 else nI (b p)) := by
  unfold fX6_byteAt bX6_byteAt_18
  rw [hT.1]
  by_cases c : n ≤ p
  · rw [if_pos (nI_le c (by omega)), if_pos c]
  · rw [if_neg (nI_ge (by omega) (by omega)), if_neg c, pu_chkP (pu_in (by omega) (by decide)), nI_clamp (by omega), hT.2 p (by omega)]
theorem m_skip {b : Nat → Nat} {n : Nat} (hn : n ≤ 120) (hb : ∀ k, k < n → b k < 256) : ∀ (f p fuel : Nat) (σ : mt_St), n ≤ f + p → f < fuel → p ≤ n → TM b n σ → σ 56 8 = nI p → ∃ g fuel', bX6_token_8 5000 fuel σ = bX6_token_8 5000 (fuel' + 1) (mt_row σ 56 g) ∧ g 8 = nI (tpS b n f p) ∧ ¬ (tpS b n f p < n ∧ b (tpS b n f p) = 32) ∧ ∀ k, k ≠ 8 → g k = σ 56 k := by
  intro f
  induction f with
  | zero =>
    intro p fuel σ hf hfu hp hT h3
    obtain ⟨fuel, rfl⟩ : ∃ q, fuel = q + 1 := ⟨fuel - 1, by omega⟩
    exact ⟨σ 56, fuel, by rw [mt_row_same], h3, fun z => by have : tpS b n 0 p = p := rfl; omega, fun _ _ => rfl⟩
  | succ f ih =>
    intro p fuel σ hf hfu hp hT h3
    obtain ⟨fuel, rfl⟩ : ∃ q, fuel = q + 1 := ⟨fuel - 1, by omega⟩
    have ts : tpS b n (f + 1) p = if p < n ∧ b p = 32 then tpS b n f (p + 1) else p := rfl
    by_cases q : p < n ∧ b p = 32
    · rw [if_pos q] at ts
      obtain ⟨g, fuel', g1, g2, g3, g4⟩ := ih (p + 1) fuel (mt_row σ 56 (upd (σ 56) 8 (nI (p + 1)))) (by omega) (by omega) (by omega) (hT.row (pu_upd_n (by decide))) (by rw [mt_row_s, pu_upd_s])
      rw [pu_row_row] at g1
      rw [ts]
      refine ⟨g, fuel', ?_, g2, g3, fun k hk => by rw [g4 k hk, mt_row_s, pu_upd_n hk]⟩
      rw [← g1]
      conv => lhs; unfold bX6_token_8
      rw [h3, m_byte hn hp hT, pu_ask, if_neg (show ¬ n ≤ p by omega), if_pos ((nB_32 _ (hb p q.1)).mpr q.2), pu_bnd, nI_1]
      rfl
    · rw [if_neg q] at ts
      rw [ts]
      exact ⟨σ 56, fuel, by rw [mt_row_same], h3, q, fun _ _ => rfl⟩
theorem m_letters {b : Nat → Nat} {n : Nat} (hn : n ≤ 120) (hb : ∀ k, k < n → b k < 256) : ∀ (f p fuel : Nat) (σ : mt_St), n ≤ f + p → f < fuel → p ≤ n → TM b n σ → σ 56 9 = nI p → ∃ g, bX6_token_84 5000 fuel σ = some ((), mt_row σ 56 g) ∧ g 9 = nI (tpL b n f p) ∧ ∀ k, k ≠ 9 → g k = σ 56 k := by
  have stop : ∀ (p fuel : Nat) (σ : mt_St), n ≤ p → p ≤ n → TM b n σ → σ 56 9 = nI p → bX6_token_84 5000 (fuel + 1) σ = some ((), σ) := by
    intro p fuel σ h1 h2 hT h3
    unfold bX6_token_84 bX6_token_206
    rw [h3, m_byte hn h2 hT, pu_ask, if_pos h1, m_letN, pu_ask, if_pos rfl]
  intro f
  induction f with
  | zero =>
    intro p fuel σ hf hfu hp hT h3
    obtain ⟨fuel, rfl⟩ : ∃ q, fuel = q + 1 := ⟨fuel - 1, by omega⟩
    exact ⟨σ 56, by rw [mt_row_same]; exact stop p fuel σ (by omega) hp hT h3, h3, fun _ _ => rfl⟩
  | succ f ih =>
    intro p fuel σ hf hfu hp hT h3
    obtain ⟨fuel, rfl⟩ : ∃ q, fuel = q + 1 := ⟨fuel - 1, by omega⟩
    unfold tpL
    by_cases c : n ≤ p
    · rw [if_neg (by omega)]
      exact ⟨σ 56, by rw [mt_row_same]; exact stop p fuel σ c hp hT h3, h3, fun _ _ => rfl⟩
    · have st : bX6_token_84 5000 (fuel + 1) σ = if bN (isLt (b p)) = 0 then some ((), σ) else bX6_token_84 5000 fuel (mt_row σ 56 (upd (σ 56) 9 (nI (p + 1)))) := by
        conv => lhs; unfold bX6_token_84 bX6_token_206
        rw [h3, m_byte hn hp hT, pu_ask, if_neg c, m_let _ (hb p (by omega)), pu_ask, pu_bnd, nI_1]
        rfl
      rw [st]
      cases q : isLt (b p)
      · rw [bN_f, if_pos rfl, if_neg (fun z => by cases z.2)]
        exact ⟨σ 56, by rw [mt_row_same], h3, fun _ _ => rfl⟩
      · rw [bN_t, if_neg i10', if_pos ⟨by omega, rfl⟩]
        obtain ⟨g, g1, g2, g3⟩ := ih (p + 1) fuel (mt_row σ 56 (upd (σ 56) 9 (nI (p + 1)))) (by omega) (by omega) (by omega) (hT.row (pu_upd_n (by decide))) (by rw [mt_row_s, pu_upd_s])
        rw [pu_row_row] at g1
        exact ⟨g, g1, g2, fun k hk => by rw [g3 k hk, mt_row_s, pu_upd_n hk]⟩
theorem m_digits {b : Nat → Nat} {n : Nat} (hn : n ≤ 120) (hb : ∀ k, k < n → b k < 256) : ∀ (f p v fuel : Nat) (σ : mt_St), n ≤ f + p → f < fuel → p ≤ n → v ≤ 99999 → TM b n σ → σ 56 9 = nI p → σ 56 11 = nI (min v 10000) → ∃ g, bX6_token_131 5000 fuel σ = some ((), mt_row σ 56 g) ∧ g 9 = nI (tpD b n f p v).1 ∧ g 11 = nI (min (tpD b n f p v).2 10000) ∧ ∀ k, k ≠ 9 → k ≠ 11 → g k = σ 56 k := by
  have stop : ∀ (p fuel : Nat) (σ : mt_St), n ≤ p → p ≤ n → TM b n σ → σ 56 9 = nI p → bX6_token_131 5000 (fuel + 1) σ = some ((), σ) := by
    intro p fuel σ h1 h2 hT h3
    unfold bX6_token_131 bX6_token_206
    rw [h3, m_byte hn h2 hT, pu_ask, if_pos h1, m_digN, pu_ask, if_pos rfl]
  intro f
  induction f with
  | zero =>
    intro p v fuel σ hf hfu hp hv hT h3 h5
    obtain ⟨fuel, rfl⟩ : ∃ q, fuel = q + 1 := ⟨fuel - 1, by omega⟩
    exact ⟨σ 56, by rw [mt_row_same]; exact stop p fuel σ (by omega) hp hT h3, h3, h5, fun _ _ _ => rfl⟩
  | succ f ih =>
    intro p v fuel σ hf hfu hp hv hT h3 h5
    obtain ⟨fuel, rfl⟩ : ∃ q, fuel = q + 1 := ⟨fuel - 1, by omega⟩
    unfold tpD
    by_cases c : n ≤ p
    · rw [if_neg (by omega)]
      exact ⟨σ 56, by rw [mt_row_same]; exact stop p fuel σ c hp hT h3, h3, h5, fun _ _ _ => rfl⟩
    · cases q : isDg (b p)
      · rw [if_neg (fun z => by cases z.2)]
        refine ⟨σ 56, ?_, h3, h5, fun _ _ _ => rfl⟩
        unfold bX6_token_131 bX6_token_206
        rw [h3, m_byte hn hp hT, pu_ask, if_neg c, m_dig _ (hb p (by omega)), pu_ask, q, bN_f, if_pos rfl, mt_row_same]
      · have hr := isDg_r q
        rw [if_pos ⟨by omega, rfl⟩]
        have e10 : mt_min 10000 (10 * nI (min v 10000) + nI (b p) - 48) = nI (min (if v ≤ 9999 then v * 10 + b p - 48 else v) 10000) := by
          rw [show (10 : Int32) = nI 10 from rfl, pk_mul, nI_add, show (48 : Int32) = nI 48 from rfl, nI_sub (by omega), show (10000 : Int32) = nI 10000 from rfl, pu_min' _ 10000 (by omega) (by decide)]
          congr 1
          split <;> omega
        obtain ⟨g, g1, g2, g3, g4⟩ := ih (p + 1) (if v ≤ 9999 then v * 10 + b p - 48 else v) fuel (mt_row σ 56 (upd (upd (σ 56) 11 (nI (min (if v ≤ 9999 then v * 10 + b p - 48 else v) 10000))) 9 (nI (p + 1)))) (by omega) (by omega) (by omega) (by split <;> omega) (hT.row (by rw [pu_upd_n (by decide), pu_upd_n (by decide)])) (by rw [mt_row_s, pu_upd_s]) (by rw [mt_row_s, pu_upd_n (by decide), pu_upd_s])
        rw [pu_row_row] at g1
        refine ⟨g, ?_, g2, g3, fun k h4 h5 => by rw [g4 k h4 h5, mt_row_s, pu_upd_n h4, pu_upd_n h5]⟩
        rw [← g1]
        conv => lhs; unfold bX6_token_131
        rw [h3, m_byte hn hp hT, pu_ask, if_neg c, m_dig _ (hb p (by omega)), pu_ask, q, bN_t, if_neg i10', pu_ask, h5, e10, pu_bnd, pu_bnd, pu_up σ 56 11, row_up, mt_row_s, pu_upd_n (show 9 ≠ 11 by decide), h3, nI_1]
theorem m_tok {b : Nat → Nat} {n p : Nat} {σ : mt_St} (hn : n ≤ 120) (hb : ∀ k, k < n → b k < 256) (hp : p ≤ n) (hT : TM b n σ) (h9 : σ 56 9 = nI p) : ∃ g, fX6_token 5000 σ = some ((), mt_row σ 56 g) ∧ g 8 = nI (kB b n p) ∧ g 9 = nI (kE b n p) ∧ g 10 = nI (min (kS b n p) 3) ∧ g 11 = nI (min (kV b n p) 10000) ∧ ∀ k, k < 8 ∨ 11 < k → g k = σ 56 k := by
  have hB := kB_r (b := b) hp
  obtain ⟨g, fuel', g1, g2, g5, g3⟩ := m_skip hn hb n p 5000 (mt_row σ 56 (upd (σ 56) 8 (nI p))) (by omega) (by omega) hp (hT.row (pu_upd_n (by decide))) (by rw [mt_row_s, pu_upd_s])
  rw [pu_row_row] at g1
  have g2 : g 8 = nI (kB b n p) := g2
  have g5 : ¬ (kB b n p < n ∧ b (kB b n p) = 32) := g5
  have gk : ∀ k, k ≠ 8 → g k = σ 56 k := fun k hk => by rw [g3 k hk, mt_row_s, pu_upd_n hk]
  have ad : fX6_token 5000 σ = bX6_token_8 5000 (fuel' + 1) (mt_row σ 56 g) := by
    unfold fX6_token
    rw [pu_bnd, h9]
    exact g1
  rw [ad]
  have hTg : TM b n (mt_row σ 56 g) := hT.row (gk 7 (by decide))
  unfold bX6_token_8 bX6_token_206
  rw [mt_row_s, g2, m_byte hn hB.2 hTg, pu_ask, pu_ask]
  have u8 : upd (upd g 9 (nI (kB b n p))) 11 0 8 = nI (kB b n p) := by rw [pu_upd_n (by decide), pu_upd_n (by decide), g2]
  by_cases c : n ≤ kB b n p
  · have eE : kE b n p = kB b n p := by unfold kE; rw [if_pos c]
    have eS : kS b n p = 0 := by unfold kS; rw [if_pos c]
    have eV : kV b n p = 0 := by unfold kV; rw [if_pos c]
    rw [if_pos c, if_neg (by decide), pu_bnd, pu_bnd, row_up, row_up, if_neg (by decide), pu_bnd, row_up, eE, eS, eV]
    refine ⟨_, rfl, ?_, ?_, ?_, ?_, fun k hk => ?_⟩
    · rw [pu_upd_n (by decide)]; exact u8
    · rw [pu_upd_n (by decide), pu_upd_n (by decide), pu_upd_s]
    · rw [pu_upd_s]; rfl
    · rw [pu_upd_n (by decide), pu_upd_s]; rfl
    · rw [pu_upd_n (by omega), pu_upd_n (by omega), pu_upd_n (by omega), gk k (by omega)]
  · have hx := hb (kB b n p) (by omega)
    rw [if_neg c, if_neg (fun z => g5 ⟨by omega, (nB_32 _ hx).mp z⟩), pu_bnd, pu_bnd, row_up, row_up, if_pos (show (0 : Int32) ≤ nI (b (kB b n p)) from nI_le (a := 0) (by omega) (by omega)), m_let _ hx, pu_ask, m_dig _ hx, pu_ask]
    cases c1 : isLt (b (kB b n p))
    · rw [bN_f, if_pos rfl]
      cases c2 : isDg (b (kB b n p))
      · rw [bN_f, if_pos rfl]
        have eE : kE b n p = kB b n p + 1 := by unfold kE; rw [if_neg c, c1, if_neg (by decide), c2, if_neg (by decide)]
        have eV : kV b n p = 0 := by unfold kV; rw [if_neg c, c1, if_neg (by decide), c2, if_neg (by decide)]
        have eS : min (kS b n p) 3 = 3 := by
          unfold kS
          rw [if_neg c, c1, if_neg (by decide), c2, if_neg (by decide)]
          split <;> rfl
        rw [pu_bnd, pu_bnd, row_up, mt_row_s, row_up, eE, eV, eS]
        refine ⟨_, rfl, ?_, ?_, ?_, ?_, fun k hk => ?_⟩
        · rw [pu_upd_n (by decide), pu_upd_n (by decide)]; exact u8
        · rw [pu_upd_s, pu_upd_n (by decide), pu_upd_n (by decide), pu_upd_s, nI_1]
        · rw [pu_upd_n (by decide), pu_upd_s]; rfl
        · rw [pu_upd_n (by decide), pu_upd_n (by decide), pu_upd_s]; rfl
        · rw [pu_upd_n (by omega), pu_upd_n (by omega), pu_upd_n (by omega), pu_upd_n (by omega), gk k (by omega)]
      · rw [bN_t, if_neg i10', pu_bnd, row_up]
        have eE : kE b n p = (tpD b n n (kB b n p) 0).1 := by unfold kE; rw [if_neg c, c1, if_neg (by decide), c2, if_pos rfl]
        have eV : kV b n p = (tpD b n n (kB b n p) 0).2 := by unfold kV; rw [if_neg c, c1, if_neg (by decide), c2, if_pos rfl]
        have eS : kS b n p = 2 := by unfold kS; rw [if_neg c, c1, if_neg (by decide), c2, if_pos rfl]
        obtain ⟨g', h1, h2, h3, h5⟩ := m_digits hn hb n (kB b n p) 0 5000 (mt_row σ 56 (upd (upd (upd g 9 (nI (kB b n p))) 11 0) 10 2)) (by omega) (by omega) hB.2 (by omega) (hT.row (by rw [pu_upd_n (by decide), pu_upd_n (by decide), pu_upd_n (by decide), gk 7 (by decide)])) (by rw [mt_row_s, pu_upd_n (by decide), pu_upd_n (by decide), pu_upd_s]) (by rw [mt_row_s, pu_upd_n (by decide), pu_upd_s]; rfl)
        rw [pu_row_row] at h1
        rw [h1, eE, eV, eS]
        refine ⟨g', rfl, ?_, h2, ?_, h3, fun k hk => ?_⟩
        · rw [h5 8 (by decide) (by decide), mt_row_s, pu_upd_n (by decide)]; exact u8
        · rw [h5 10 (by decide) (by decide), mt_row_s, pu_upd_s]; rfl
        · rw [h5 k (by omega) (by omega), mt_row_s, pu_upd_n (by omega), pu_upd_n (by omega), pu_upd_n (by omega), gk k (by omega)]
    · rw [bN_t, if_neg i10', pu_bnd, row_up]
      have eE : kE b n p = tpL b n n (kB b n p) := by unfold kE; rw [if_neg c, c1, if_pos rfl]
      have eV : kV b n p = 0 := by unfold kV; rw [if_neg c, c1, if_pos rfl]
      have eS : kS b n p = 1 := by unfold kS; rw [if_neg c, c1, if_pos rfl]
      obtain ⟨g', h1, h2, h3⟩ := m_letters hn hb n (kB b n p) 5000 (mt_row σ 56 (upd (upd (upd g 9 (nI (kB b n p))) 11 0) 10 1)) (by omega) (by omega) hB.2 (hT.row (by rw [pu_upd_n (by decide), pu_upd_n (by decide), pu_upd_n (by decide), gk 7 (by decide)])) (by rw [mt_row_s, pu_upd_n (by decide), pu_upd_n (by decide), pu_upd_s])
      rw [pu_row_row] at h1
      rw [h1, eE, eV, eS]
      refine ⟨g', rfl, ?_, h2, ?_, ?_, fun k hk => ?_⟩
      · rw [h3 8 (by decide), mt_row_s, pu_upd_n (by decide)]; exact u8
      · rw [h3 10 (by decide), mt_row_s, pu_upd_s]; rfl
      · rw [h3 11 (by decide), mt_row_s, pu_upd_n (by decide), pu_upd_s]; rfl
      · rw [h3 k (by omega), mt_row_s, pu_upd_n (by omega), pu_upd_n (by omega), pu_upd_n (by omega), gk k (by omega)]
/-! words -/
def wLen (w : Nat) : Nat := mt_sl.getD w 0
def wCh (w i : Nat) : Int32 := (mt_sb.getD w []).getD i 0
def wd (b : Nat → Nat) (B w : Nat) : Nat → Bool
  | 0 => true
  | i + 1 => wd b B w i && decide (nI (b (B + i)) = wCh w i)
def isWd (b : Nat → Nat) (n p w : Nat) : Bool := decide (kS b n p = 1) && (decide (kE b n p - kB b n p = wLen w) && wd b (kB b n p) w (wLen w))
theorem wd_s (b : Nat → Nat) (B w i : Nat) : wd b B w (i + 1) = (wd b B w i && decide (nI (b (B + i)) = wCh w i)) := rfl
theorem wd_f {b : Nat → Nat} {B w : Nat} : ∀ d i, wd b B w i = false → wd b B w (i + d) = false := by
  intro d
  induction d with
  | zero => intro i h; exact h
  | succ d ih => intro i h; show (wd b B w (i + d) && _) = false; rw [ih i h]; rfl
theorem w_len : ∀ w : Nat, w < 13 → fS_len w = some (nI (wLen w)) ∧ wLen w ≤ 7 := by decide +kernel
theorem w_chr : ∀ w : Nat, w < 13 → ∀ i : Nat, i < wLen w → fS_chr w (nI i) = some (wCh w i) := by decide +kernel
theorem w_sB : ∀ w : Nat, w < 13 → ∀ i : Nat, i < wLen w → ∀ x : Nat, x < 256 → (sB x = wCh w i ↔ nI x = wCh w i) := by decide +kernel
def wdf (w v : Nat) : Nat → Bool
  | 0 => false
  | i + 1 => wdf w v i || !decide (wCh w i = wCh v i)
theorem w_ne : ∀ w : Nat, w < 13 → ∀ v : Nat, v < 13 → w ≠ v → (wLen w ≠ wLen v ∨ wdf w v (wLen w) = true) := by decide +kernel
theorem wd_two {b : Nat → Nat} {B w v : Nat} : ∀ m, wd b B w m = true → wd b B v m = true → wdf w v m = false := by
  intro m
  induction m with
  | zero => intro _ _; rfl
  | succ m ih =>
    intro h1 h2
    rw [wd_s, Bool.and_eq_true, decide_eq_true_eq] at h1 h2
    show (wdf w v m || !decide (wCh w m = wCh v m)) = false
    rw [ih h1.1 h2.1, decide_eq_true (h1.2.symm.trans h2.2)]
    rfl
theorem isWd_one {b : Nat → Nat} {n p w v : Nat} (hw : w < 13) (hv : v < 13) (h1 : isWd b n p w = true) (hne : w ≠ v) : isWd b n p v = false := by
  cases h2 : isWd b n p v
  · rfl
  · unfold isWd at h1 h2
    rw [Bool.and_eq_true, Bool.and_eq_true, decide_eq_true_eq, decide_eq_true_eq] at h1 h2
    obtain ⟨-, l1, c1⟩ := h1
    obtain ⟨-, l2, c2⟩ := h2
    rcases w_ne w hw v hv hne with q | q
    · exact absurd (l1.symm.trans l2) q
    · rw [← l2, l1] at c2
      rw [wd_two _ c1 c2] at q
      cases q
theorem x_isWd {b : Nat → Nat} {n p w : Nat} {σ : mt_St} (hn : n ≤ 120) (hb : ∀ k, k < n → b k < 256) (hp : p ≤ n) (hw : w < 13) (hT : TX b n σ) (h3 : σ 44 3 = nI (kB b n p)) (h4 : σ 44 4 = nI (kE b n p)) (h2 : σ 44 2 = nI (kS b n p)) : fX0_isWord 5000 σ w = some (bN (isWd b n p w)) := by
  obtain ⟨l1, l2⟩ := w_len w hw
  have hB := kB_r (b := b) hp
  have hE := kE_r hb hp
  have hS := kS_r b n p
  unfold fX0_isWord bX0_isWord_24 isWd
  rw [h2, h3, h4, l1, pu_ask, nI_sub hE.1]
  by_cases c : kS b n p = 1
  · rw [if_pos (by rw [c]; rfl), decide_eq_true c, Bool.true_and]
    by_cases c2 : kE b n p - kB b n p = wLen w
    · rw [if_pos (by rw [c2]), decide_eq_true c2, Bool.true_and]
      have lp : ∀ (d i fuel : Nat), wLen w = i + d → d < fuel → wd b (kB b n p) w i = true → bX0_isWord_28 5000 w σ fuel (nI i) = some (bN (wd b (kB b n p) w (wLen w))) := by
        intro d
        induction d with
        | zero =>
          intro i fuel hd hf hz
          obtain ⟨fuel, rfl⟩ : ∃ q, fuel = q + 1 := ⟨fuel - 1, by omega⟩
          have : i = wLen w := by omega
          subst this
          unfold bX0_isWord_28 bX0_isWord_74
          rw [l1, pu_ask, if_pos (nI_le (Nat.le_refl _) (by omega)), hz]
          rfl
        | succ d ih =>
          intro i fuel hd hf hz
          obtain ⟨fuel, rfl⟩ : ∃ q, fuel = q + 1 := ⟨fuel - 1, by omega⟩
          have hs := wd_s b (kB b n p) w i
          rw [hz, Bool.true_and] at hs
          have hx := hb (kB b n p + i) (by omega)
          have hq := w_sB w hw i (by omega) _ hx
          unfold bX0_isWord_28
          rw [l1, pu_ask, if_neg (nI_ge (by omega) (by omega)), h3, nI_add, if_neg (show ¬ (120 : Int32) ≤ nI (kB b n p + i) from nI_ge (b := 120) (by omega) (by decide)), pu_chkP (pu_in (by omega) (by decide)), w_chr w hw i (by omega), pu_ask, nI_clamp (by omega), hT.2 _ (by omega), nI_1]
          by_cases z : nI (b (kB b n p + i)) = wCh w i
          · rw [decide_eq_true z] at hs
            rw [if_pos (hq.mpr z)]
            exact ih (i + 1) fuel (by omega) (by omega) hs
          · rw [decide_eq_false z] at hs
            have := wd_f d (i + 1) hs
            rw [show i + 1 + d = wLen w by omega] at this
            rw [if_neg (fun y => z (hq.mp y)), this]
            rfl
      exact lp (wLen w) 0 5000 (by omega) (by omega) rfl
    · rw [if_neg (fun z => c2 (nI_inj (by omega) (by omega) z)), decide_eq_false c2, Bool.false_and]
      rfl
  · rw [if_neg (show ¬ nI (kS b n p) = 1 from fun z => c (nI_inj (i := kS b n p) (t := 1) (by omega) (by omega) z)), decide_eq_false c, Bool.false_and]
    rfl
theorem m_isWd {b : Nat → Nat} {n p w : Nat} {σ : mt_St} (hn : n ≤ 120) (hb : ∀ k, k < n → b k < 256) (hp : p ≤ n) (hw : w < 13) (hT : TM b n σ) (h3 : σ 56 8 = nI (kB b n p)) (h4 : σ 56 9 = nI (kE b n p)) (h2 : σ 56 10 = nI (min (kS b n p) 3)) : fX6_isWord 5000 σ w = some (bN (isWd b n p w)) := by
  obtain ⟨l1, l2⟩ := w_len w hw
  have hB := kB_r (b := b) hp
  have hE := kE_r hb hp
  have hS := kS_r b n p
  have no : bX6_isWord_28 5000 w σ = some (bN false) := by
    unfold bX6_isWord_28 bX6_isWord_29
    have : ∀ fuel, bX6_isWord_32 5000 w σ (fuel + 1) 0 0 = some (bN false) := by
      intro fuel
      unfold bX6_isWord_32 bX6_isWord_75
      rw [l1, pu_ask, if_pos (show (0 : Int32) = 0 from rfl)]
      split <;> rfl
    exact this 4999
  unfold fX6_isWord isWd
  rw [h2, h3, h4, l1, pu_ask, nI_sub hE.1, no]
  by_cases c : kS b n p = 1
  · rw [if_pos (by rw [c]; rfl), decide_eq_true c, Bool.true_and]
    by_cases c2 : kE b n p - kB b n p = wLen w
    · rw [if_pos (by rw [c2]), decide_eq_true c2, Bool.true_and]
      have lp : ∀ (d i fuel : Nat), wLen w = i + d → d < fuel → bX6_isWord_32 5000 w σ fuel (bN (wd b (kB b n p) w i)) (nI i) = some (bN (wd b (kB b n p) w (wLen w))) := by
        intro d
        induction d with
        | zero =>
          intro i fuel hd hf
          obtain ⟨fuel, rfl⟩ : ∃ q, fuel = q + 1 := ⟨fuel - 1, by omega⟩
          have : i = wLen w := by omega
          subst this
          unfold bX6_isWord_32 bX6_isWord_75
          rw [l1, pu_ask, if_pos (nI_le (Nat.le_refl _) (by omega)), bN_c, pu_chk]
        | succ d ih =>
          intro i fuel hd hf
          obtain ⟨fuel, rfl⟩ : ∃ q, fuel = q + 1 := ⟨fuel - 1, by omega⟩
          have hs := wd_s b (kB b n p) w i
          have nx := ih (i + 1) fuel (by omega) (by omega)
          unfold bX6_isWord_32 bX6_isWord_75 bX6_isWord_68
          rw [l1, pu_ask, if_neg (nI_ge (by omega) (by omega)), h3, nI_add]
          cases hz : wd b (kB b n p) w i
          · have := wd_f (d + 1) i hz
            rw [show i + (d + 1) = wLen w by omega] at this
            rw [bN_f, if_pos rfl, this]
            rfl
          · rw [hz, Bool.true_and] at hs
            rw [hs] at nx
            rw [bN_t, if_neg i10', pu_chkP (pu_in (by omega) (by decide)), w_chr w hw i (by omega), pu_ask, nI_clamp (by omega), hT.2 _ (by omega), nI_1]
            by_cases z : nI (b (kB b n p + i)) = wCh w i
            · rw [decide_eq_true z] at nx
              rw [if_pos z]; exact nx
            · rw [decide_eq_false z] at nx
              rw [if_neg z]; exact nx
      exact lp (wLen w) 0 5000 (by omega) (by omega)
    · rw [if_neg (fun z => c2 (nI_inj (by omega) (by omega) z)), decide_eq_false c2, Bool.false_and]
  · rw [if_neg (show ¬ nI (min (kS b n p) 3) = 1 from fun z => c (by have := nI_inj (i := min (kS b n p) 3) (t := 1) (by omega) (by omega) z; omega)), decide_eq_false c, Bool.false_and]
