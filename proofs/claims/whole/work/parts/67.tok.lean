/-! the tape, token by token: a token is known by where the one before it ends -/
def sB (x : Nat) : Int32 := (nI x).toInt8.toInt32
def isLt (x : Nat) : Bool := decide (97 ≤ x) && decide (x ≤ 122)
def isDg (x : Nat) : Bool := decide (48 ≤ x) && decide (x ≤ 57)
theorem sB_32 : ∀ x : Nat, x < 256 → (sB x = 32 ↔ x = 32) := by decide +kernel
theorem sB_59 : ∀ x : Nat, x < 256 → (sB x = 59 ↔ x = 59) := by decide +kernel
theorem nB_32 : ∀ x : Nat, x < 256 → (nI x = 32 ↔ x = 32) := by decide +kernel
theorem nB_59 : ∀ x : Nat, x < 256 → (nI x = 59 ↔ x = 59) := by decide +kernel
theorem x_let : ∀ x : Nat, x < 256 → fX0_isLetter 5000 (sB x) = some (bN (isLt x)) := by decide +kernel
theorem x_dig : ∀ x : Nat, x < 256 → fX0_isDigit 5000 (sB x) = some (bN (isDg x)) := by decide +kernel
theorem m_let : ∀ x : Nat, x < 256 → fX6_within 5000 (nI x) 97 122 = some (bN (isLt x)) := by decide +kernel
theorem m_dig : ∀ x : Nat, x < 256 → fX6_within 5000 (nI x) 48 57 = some (bN (isDg x)) := by decide +kernel
theorem m_letN : fX6_within 5000 (-1) 97 122 = some 0 := by decide +kernel
theorem m_digN : fX6_within 5000 (-1) 48 57 = some 0 := by decide +kernel
theorem sB_dig : ∀ x : Nat, x < 256 → isDg x = true → sB x = nI x := by decide +kernel
theorem isDg_r {x : Nat} (h : isDg x = true) : 48 ≤ x ∧ x ≤ 57 := by
  unfold isDg at h
  rw [Bool.and_eq_true, decide_eq_true_eq, decide_eq_true_eq] at h
  exact h
def tpS (b : Nat → Nat) (n : Nat) : Nat → Nat → Nat
  | 0, p => p
  | f + 1, p => if p < n ∧ b p = 32 then tpS b n f (p + 1) else p
def tpL (b : Nat → Nat) (n : Nat) : Nat → Nat → Nat
  | 0, p => p
  | f + 1, p => if p < n ∧ isLt (b p) = true then tpL b n f (p + 1) else p
def tpD (b : Nat → Nat) (n : Nat) : Nat → Nat → Nat → Nat × Nat
  | 0, p, v => (p, v)
  | f + 1, p, v => if p < n ∧ isDg (b p) = true then tpD b n f (p + 1) (if v ≤ 9999 then v * 10 + b p - 48 else v) else (p, v)
def kB (b : Nat → Nat) (n p : Nat) : Nat := tpS b n n p
def kS (b : Nat → Nat) (n p : Nat) : Nat := if n ≤ kB b n p then 0 else if isLt (b (kB b n p)) = true then 1 else if isDg (b (kB b n p)) = true then 2 else if b (kB b n p) = 59 then 3 else 4
def kE (b : Nat → Nat) (n p : Nat) : Nat := if n ≤ kB b n p then kB b n p else if isLt (b (kB b n p)) = true then tpL b n n (kB b n p) else if isDg (b (kB b n p)) = true then (tpD b n n (kB b n p) 0).1 else kB b n p + 1
def kV (b : Nat → Nat) (n p : Nat) : Nat := if n ≤ kB b n p then 0 else if isLt (b (kB b n p)) = true then 0 else if isDg (b (kB b n p)) = true then (tpD b n n (kB b n p) 0).2 else 0
theorem tpS_r (b : Nat → Nat) (n : Nat) : ∀ f p, p ≤ n → p ≤ tpS b n f p ∧ tpS b n f p ≤ n := by
  intro f
  induction f with
  | zero => intro p h; exact ⟨Nat.le_refl _, h⟩
  | succ f ih =>
    intro p h
    unfold tpS
    split
    · rename_i q
      have := ih (p + 1) (by omega)
      omega
    · exact ⟨Nat.le_refl _, h⟩
theorem tpL_r (b : Nat → Nat) (n : Nat) : ∀ f p, p ≤ n → p ≤ tpL b n f p ∧ tpL b n f p ≤ n := by
  intro f
  induction f with
  | zero => intro p h; exact ⟨Nat.le_refl _, h⟩
  | succ f ih =>
    intro p h
    unfold tpL
    split
    · rename_i q
      have := ih (p + 1) (by omega)
      omega
    · exact ⟨Nat.le_refl _, h⟩
theorem tpD_r (b : Nat → Nat) (n : Nat) (hb : ∀ k, k < n → b k < 256) : ∀ f p v, p ≤ n → v ≤ 99999 → p ≤ (tpD b n f p v).1 ∧ (tpD b n f p v).1 ≤ n ∧ (tpD b n f p v).2 ≤ 99999 := by
  intro f
  induction f with
  | zero => intro p v h hv; exact ⟨Nat.le_refl _, h, hv⟩
  | succ f ih =>
    intro p v h hv
    unfold tpD
    split
    · rename_i q
      have := isDg_r q.2
      have := ih (p + 1) (if v ≤ 9999 then v * 10 + b p - 48 else v) (by omega) (by split <;> omega)
      omega
    · exact ⟨Nat.le_refl _, h, hv⟩
theorem kB_r {b : Nat → Nat} {n p : Nat} (hp : p ≤ n) : p ≤ kB b n p ∧ kB b n p ≤ n := tpS_r b n n p hp
theorem kE_r {b : Nat → Nat} {n p : Nat} (hb : ∀ k, k < n → b k < 256) (hp : p ≤ n) : kB b n p ≤ kE b n p ∧ kE b n p ≤ n ∧ (kS b n p ≠ 0 → kB b n p < kE b n p) := by
  have hB := kB_r (b := b) hp
  unfold kE kS
  by_cases c : n ≤ kB b n p
  · rw [if_pos c, if_pos c]
    exact ⟨Nat.le_refl _, hB.2, fun h => absurd rfl h⟩
  · rw [if_neg c, if_neg c]
    obtain ⟨m, hm⟩ : ∃ m, n = m + 1 := ⟨n - 1, by omega⟩
    by_cases c1 : isLt (b (kB b n p)) = true
    · rw [if_pos c1]
      have e : tpL b n n (kB b n p) = tpL b n m (kB b n p + 1) := by
        rw [show tpL b n n (kB b n p) = tpL b n (m + 1) (kB b n p) from by rw [← hm]]
        show (if kB b n p < n ∧ isLt (b (kB b n p)) = true then tpL b n m (kB b n p + 1) else kB b n p) = _
        rw [if_pos ⟨by omega, c1⟩]
      have := tpL_r b n m (kB b n p + 1) (by omega)
      rw [e]
      omega
    · rw [if_neg c1]
      by_cases c2 : isDg (b (kB b n p)) = true
      · rw [if_pos c2]
        have e : tpD b n n (kB b n p) 0 = tpD b n m (kB b n p + 1) (if 0 ≤ 9999 then 0 * 10 + b (kB b n p) - 48 else 0) := by
          rw [show tpD b n n (kB b n p) 0 = tpD b n (m + 1) (kB b n p) 0 from by rw [← hm]]
          show (if kB b n p < n ∧ isDg (b (kB b n p)) = true then tpD b n m (kB b n p + 1) (if 0 ≤ 9999 then 0 * 10 + b (kB b n p) - 48 else 0) else (kB b n p, 0)) = _
          rw [if_pos ⟨by omega, c2⟩]
        have := isDg_r c2
        have := tpD_r b n hb m (kB b n p + 1) (if 0 ≤ 9999 then 0 * 10 + b (kB b n p) - 48 else 0) (by omega) (by split <;> omega)
        rw [e]
        omega
      · rw [if_neg c2]
        omega
theorem kV_r {b : Nat → Nat} {n p : Nat} (hb : ∀ k, k < n → b k < 256) (hp : p ≤ n) : kV b n p ≤ 99999 := by
  have hB := kB_r (b := b) hp
  unfold kV
  repeat' split
  · omega
  · omega
  · exact (tpD_r b n hb n (kB b n p) 0 hB.2 (by omega)).2.2
  · omega
theorem kS_r (b : Nat → Nat) (n p : Nat) : kS b n p ≤ 4 := by
  unfold kS
  repeat' split
  all_goals omega
theorem nI_sub {x c : Nat} (h : c ≤ x) : nI x - nI c = nI (x - c) := by
  have e : nI x = nI (x - c) + nI c := by rw [nI_add]; congr 1; omega
  rw [e, Int32.add_sub_cancel]
/-! the class reads a token -/
def TX (b : Nat → Nat) (n : Nat) (σ : mt_St) : Prop := σ 44 1 = nI n ∧ ∀ k, k < n → σ 45 k = sB (b k)
theorem TX.row {b : Nat → Nat} {n : Nat} {σ : mt_St} {g : Nat → Int32} (h : TX b n σ) (hg : g 1 = σ 44 1) : TX b n (mt_row σ 44 g) := ⟨by rw [mt_row_s, hg]; exact h.1, fun k hk => by rw [mt_row_n (by decide)]; exact h.2 k hk⟩
theorem row_up (σ : mt_St) (c k : Nat) (g : Nat → Int32) (v : Int32) : mt_up (mt_row σ c g) c k v = mt_row σ c (upd g k v) := by
  rw [pu_up, mt_row_s, pu_row_row]
theorem x_skip {b : Nat → Nat} {n : Nat} (hn : n ≤ 120) (hb : ∀ k, k < n → b k < 256) : ∀ (f p fuel : Nat) (σ : mt_St), n ≤ f + p → f < fuel → p ≤ n → TX b n σ → σ 44 3 = nI p → ∃ g, bX0_advance_8 5000 fuel σ = bX0_advance_46 5000 (mt_row σ 44 g) ∧ g 3 = nI (tpS b n f p) ∧ ∀ k, k ≠ 3 → g k = σ 44 k := by
  have stop : ∀ (p fuel : Nat) (σ : mt_St), n ≤ p → p ≤ n → TX b n σ → σ 44 3 = nI p → bX0_advance_8 5000 (fuel + 1) σ = bX0_advance_46 5000 σ := by
    intro p fuel σ h1 h2 hT h3
    unfold bX0_advance_8
    rw [hT.1, h3, if_pos (nI_le h1 (by omega))]
  intro f
  induction f with
  | zero =>
    intro p fuel σ hf hfu hp hT h3
    obtain ⟨fuel, rfl⟩ : ∃ q, fuel = q + 1 := ⟨fuel - 1, by omega⟩
    exact ⟨σ 44, by rw [mt_row_same]; exact stop p fuel σ (by omega) hp hT h3, h3, fun _ _ => rfl⟩
  | succ f ih =>
    intro p fuel σ hf hfu hp hT h3
    obtain ⟨fuel, rfl⟩ : ∃ q, fuel = q + 1 := ⟨fuel - 1, by omega⟩
    unfold tpS
    by_cases c : n ≤ p
    · rw [if_neg (by omega)]
      exact ⟨σ 44, by rw [mt_row_same]; exact stop p fuel σ c hp hT h3, h3, fun _ _ => rfl⟩
    · have hx := sB_32 (b p) (hb p (by omega))
      have st : bX0_advance_8 5000 (fuel + 1) σ = if sB (b p) = 32 then bX0_advance_8 5000 fuel (mt_row σ 44 (upd (σ 44) 3 (nI (p + 1)))) else bX0_advance_46 5000 σ := by
        conv => lhs; unfold bX0_advance_8
        rw [hT.1, h3, if_neg (nI_ge (by omega) (by omega)), pu_chkP (pu_in (by omega) (by decide)), nI_clamp (by omega), hT.2 p (by omega), nI_1]
        rfl
      rw [st]
      by_cases q : b p = 32
      · rw [if_pos (hx.mpr q), if_pos ⟨by omega, q⟩]
        obtain ⟨g, g1, g2, g3⟩ := ih (p + 1) fuel (mt_row σ 44 (upd (σ 44) 3 (nI (p + 1)))) (by omega) (by omega) (by omega) (hT.row (pu_upd_n (by decide))) (by rw [mt_row_s, pu_upd_s])
        rw [pu_row_row] at g1
        exact ⟨g, g1, g2, fun k hk => by rw [g3 k hk, mt_row_s, pu_upd_n hk]⟩
      · rw [if_neg (fun z => q (hx.mp z)), if_neg (fun z => q z.2)]
        exact ⟨σ 44, by rw [mt_row_same], h3, fun _ _ => rfl⟩
theorem x_letters {b : Nat → Nat} {n : Nat} (hn : n ≤ 120) (hb : ∀ k, k < n → b k < 256) : ∀ (f p fuel : Nat) (σ : mt_St), n ≤ f + p → f < fuel → p ≤ n → TX b n σ → σ 44 4 = nI p → ∃ g, bX0_advanceLetters_0 5000 fuel σ = some ((), mt_row σ 44 g) ∧ g 4 = nI (tpL b n f p) ∧ ∀ k, k ≠ 4 → g k = σ 44 k := by
  have stop : ∀ (p fuel : Nat) (σ : mt_St), n ≤ p → p ≤ n → TX b n σ → σ 44 4 = nI p → bX0_advanceLetters_0 5000 (fuel + 1) σ = some ((), σ) := by
    intro p fuel σ h1 h2 hT h3
    unfold bX0_advanceLetters_0 bX0_advanceLetters_39
    rw [hT.1, h3, if_pos (nI_le h1 (by omega))]
  intro f
  induction f with
  | zero =>
    intro p fuel σ hf hfu hp hT h3
    obtain ⟨fuel, rfl⟩ : ∃ q, fuel = q + 1 := ⟨fuel - 1, by omega⟩
    exact ⟨σ 44, by rw [mt_row_same]; exact stop p fuel σ (by omega) hp hT h3, h3, fun _ _ => rfl⟩
  | succ f ih =>
    intro p fuel σ hf hfu hp hT h3
    obtain ⟨fuel, rfl⟩ : ∃ q, fuel = q + 1 := ⟨fuel - 1, by omega⟩
    unfold tpL
    by_cases c : n ≤ p
    · rw [if_neg (by omega)]
      exact ⟨σ 44, by rw [mt_row_same]; exact stop p fuel σ c hp hT h3, h3, fun _ _ => rfl⟩
    · have st : bX0_advanceLetters_0 5000 (fuel + 1) σ = if bN (isLt (b p)) = 0 then some ((), σ) else bX0_advanceLetters_0 5000 fuel (mt_row σ 44 (upd (σ 44) 4 (nI (p + 1)))) := by
        conv => lhs; unfold bX0_advanceLetters_0 bX0_advanceLetters_39
        rw [hT.1, h3, if_neg (nI_ge (by omega) (by omega)), pu_chkP (pu_in (by omega) (by decide)), nI_clamp (by omega), hT.2 p (by omega), x_let (b p) (hb p (by omega)), pu_ask, nI_1]
        rfl
      rw [st]
      cases q : isLt (b p)
      · rw [bN_f, if_pos rfl, if_neg (fun z => by cases z.2)]
        exact ⟨σ 44, by rw [mt_row_same], h3, fun _ _ => rfl⟩
      · rw [bN_t, if_neg i10', if_pos ⟨by omega, rfl⟩]
        obtain ⟨g, g1, g2, g3⟩ := ih (p + 1) fuel (mt_row σ 44 (upd (σ 44) 4 (nI (p + 1)))) (by omega) (by omega) (by omega) (hT.row (pu_upd_n (by decide))) (by rw [mt_row_s, pu_upd_s])
        rw [pu_row_row] at g1
        exact ⟨g, g1, g2, fun k hk => by rw [g3 k hk, mt_row_s, pu_upd_n hk]⟩
theorem x_digits {b : Nat → Nat} {n : Nat} (hn : n ≤ 120) (hb : ∀ k, k < n → b k < 256) : ∀ (f p v fuel : Nat) (σ : mt_St), n ≤ f + p → f < fuel → p ≤ n → v ≤ 99999 → TX b n σ → σ 44 4 = nI p → σ 44 5 = nI v → ∃ g, bX0_advanceDigits_0 5000 fuel σ = some ((), mt_row σ 44 g) ∧ g 4 = nI (tpD b n f p v).1 ∧ g 5 = nI (tpD b n f p v).2 ∧ ∀ k, k ≠ 4 → k ≠ 5 → g k = σ 44 k := by
  have stop : ∀ (p fuel : Nat) (σ : mt_St), n ≤ p → p ≤ n → TX b n σ → σ 44 4 = nI p → bX0_advanceDigits_0 5000 (fuel + 1) σ = some ((), σ) := by
    intro p fuel σ h1 h2 hT h3
    unfold bX0_advanceDigits_0 bX0_advanceDigits_73
    rw [hT.1, h3, if_pos (nI_le h1 (by omega))]
  intro f
  induction f with
  | zero =>
    intro p v fuel σ hf hfu hp hv hT h3 h5
    obtain ⟨fuel, rfl⟩ : ∃ q, fuel = q + 1 := ⟨fuel - 1, by omega⟩
    exact ⟨σ 44, by rw [mt_row_same]; exact stop p fuel σ (by omega) hp hT h3, h3, h5, fun _ _ _ => rfl⟩
  | succ f ih =>
    intro p v fuel σ hf hfu hp hv hT h3 h5
    obtain ⟨fuel, rfl⟩ : ∃ q, fuel = q + 1 := ⟨fuel - 1, by omega⟩
    unfold tpD
    by_cases c : n ≤ p
    · rw [if_neg (by omega)]
      exact ⟨σ 44, by rw [mt_row_same]; exact stop p fuel σ c hp hT h3, h3, h5, fun _ _ _ => rfl⟩
    · cases q : isDg (b p)
      · rw [if_neg (fun z => by cases z.2)]
        refine ⟨σ 44, ?_, h3, h5, fun _ _ _ => rfl⟩
        unfold bX0_advanceDigits_0 bX0_advanceDigits_73
        rw [hT.1, h3, if_neg (nI_ge (by omega) (by omega)), pu_chkP (pu_in (by omega) (by decide)), nI_clamp (by omega), hT.2 p (by omega), x_dig (b p) (hb p (by omega)), pu_ask, q, bN_f, if_pos rfl, mt_row_same]
      · have hr := isDg_r q
        have eb := sB_dig (b p) (hb p (by omega)) q
        rw [if_pos ⟨by omega, rfl⟩]
        have e10 : nI v * 10 + nI (b p) - 48 = nI (v * 10 + b p - 48) := by
          rw [show (10 : Int32) = nI 10 from rfl, pk_mul, nI_add, show (48 : Int32) = nI 48 from rfl, nI_sub (by omega)]
        by_cases w : v ≤ 9999
        · rw [if_pos w]
          obtain ⟨g, g1, g2, g3, g4⟩ := ih (p + 1) (v * 10 + b p - 48) fuel (mt_row σ 44 (upd (upd (σ 44) 5 (nI (v * 10 + b p - 48))) 4 (nI (p + 1)))) (by omega) (by omega) (by omega) (by omega) (hT.row (by rw [pu_upd_n (by decide), pu_upd_n (by decide)])) (by rw [mt_row_s, pu_upd_s]) (by rw [mt_row_s, pu_upd_n (by decide), pu_upd_s])
          rw [pu_row_row] at g1
          refine ⟨g, ?_, g2, g3, fun k h4 h5 => by rw [g4 k h4 h5, mt_row_s, pu_upd_n h4, pu_upd_n h5]⟩
          rw [← g1]
          conv => lhs; unfold bX0_advanceDigits_0 bX0_advanceDigits_60
          rw [hT.1, h3, if_neg (nI_ge (by omega) (by omega)), pu_chkP (pu_in (by omega) (by decide)), nI_clamp (by omega), hT.2 p (by omega), x_dig (b p) (hb p (by omega)), pu_ask, q, bN_t, if_neg i10', h5, if_neg (show ¬ (9999 : Int32) < nI v from nI_nlt (a := 9999) w (by decide)), pu_chkP (pu_in (by omega) (by decide)), eb, e10, pu_bnd, pu_bnd]
          rw [pu_up σ 44 5, row_up, mt_row_s, pu_upd_n (show 4 ≠ 5 by decide), h3, nI_1]
        · rw [if_neg w]
          obtain ⟨g, g1, g2, g3, g4⟩ := ih (p + 1) v fuel (mt_row σ 44 (upd (σ 44) 4 (nI (p + 1)))) (by omega) (by omega) (by omega) (by omega) (hT.row (by rw [pu_upd_n (by decide)])) (by rw [mt_row_s, pu_upd_s]) (by rw [mt_row_s, pu_upd_n (by decide)]; exact h5)
          rw [pu_row_row] at g1
          refine ⟨g, ?_, g2, g3, fun k h4 h5 => by rw [g4 k h4 h5, mt_row_s, pu_upd_n h4]⟩
          rw [← g1]
          conv => lhs; unfold bX0_advanceDigits_0 bX0_advanceDigits_60
          rw [hT.1, h3, if_neg (nI_ge (by omega) (by omega)), pu_chkP (pu_in (by omega) (by decide)), nI_clamp (by omega), hT.2 p (by omega), x_dig (b p) (hb p (by omega)), pu_ask, q, bN_t, if_neg i10', h5, if_pos (show (9999 : Int32) < nI v from nI_lt (a := 9999) (by omega) (by omega)), pu_bnd, nI_1]
          rfl
theorem x_adv {b : Nat → Nat} {n p : Nat} {σ : mt_St} (hn : n ≤ 120) (hb : ∀ k, k < n → b k < 256) (hp : p ≤ n) (hT : TX b n σ) (h4 : σ 44 4 = nI p) : ∃ g, fX0_advance 5000 σ = some ((), mt_row σ 44 g) ∧ g 3 = nI (kB b n p) ∧ g 4 = nI (kE b n p) ∧ g 2 = nI (kS b n p) ∧ g 5 = nI (kV b n p) ∧ ∀ k, k < 2 ∨ 5 < k → g k = σ 44 k := by
  have hB := kB_r (b := b) hp
  obtain ⟨g, g1, g2, g3⟩ := x_skip hn hb n p 5000 (mt_row σ 44 (upd (σ 44) 3 (nI p))) (by omega) (by omega) hp (hT.row (pu_upd_n (by decide))) (by rw [mt_row_s, pu_upd_s])
  rw [pu_row_row] at g1
  have g2 : g 3 = nI (kB b n p) := g2
  have gk : ∀ k, k ≠ 3 → g k = σ 44 k := fun k hk => by rw [g3 k hk, mt_row_s, pu_upd_n hk]
  have ad : fX0_advance 5000 σ = bX0_advance_46 5000 (mt_row σ 44 g) := by
    unfold fX0_advance
    rw [pu_bnd, h4]
    exact g1
  rw [ad]
  have hT2 : TX b n (mt_row σ 44 (upd (upd g 4 (nI (kB b n p))) 5 0)) := hT.row (by rw [pu_upd_n (by decide), pu_upd_n (by decide), gk 1 (by decide)])
  unfold bX0_advance_46 bX0_advance_152 bX0_advance_165
  rw [pu_bnd, pu_bnd, mt_row_s, g2, row_up, row_up, mt_row_s]
  have u3 : upd (upd g 4 (nI (kB b n p))) 5 0 3 = nI (kB b n p) := by rw [pu_upd_n (by decide), pu_upd_n (by decide), g2]
  have u1 : upd (upd g 4 (nI (kB b n p))) 5 0 1 = nI n := by rw [pu_upd_n (by decide), pu_upd_n (by decide), gk 1 (by decide)]; exact hT.1
  rw [u3, u1]
  by_cases c : n ≤ kB b n p
  · have eE : kE b n p = kB b n p := by unfold kE; rw [if_pos c]
    have eS : kS b n p = 0 := by unfold kS; rw [if_pos c]
    have eV : kV b n p = 0 := by unfold kV; rw [if_pos c]
    rw [eE, eS, eV, if_neg (nI_nlt c (by omega)), pu_bnd, row_up]
    refine ⟨_, rfl, ?_, ?_, ?_, ?_, fun k hk => ?_⟩
    · rw [pu_upd_n (by decide)]; exact u3
    · rw [pu_upd_n (by decide), pu_upd_n (by decide), pu_upd_s]
    · rw [pu_upd_s]; rfl
    · rw [pu_upd_n (by decide), pu_upd_s]; rfl
    · rw [pu_upd_n (by omega), pu_upd_n (by omega), pu_upd_n (by omega), gk k (by omega)]
  · have hx := hb (kB b n p) (by omega)
    have e45 : mt_row σ 44 (upd (upd g 4 (nI (kB b n p))) 5 0) 45 (kB b n p) = sB (b (kB b n p)) := hT2.2 _ (by omega)
    rw [if_pos (nI_lt (by omega) (by omega)), pu_chkP (pu_in (by omega) (by decide)), pu_chkP (pu_in (by omega) (by decide)), pu_chkP (pu_in (by omega) (by decide)), nI_clamp (by omega), e45, x_let _ hx, pu_ask, x_dig _ hx, pu_ask]
    cases c1 : isLt (b (kB b n p))
    · rw [bN_f, if_pos rfl]
      cases c2 : isDg (b (kB b n p))
      · rw [bN_f, if_pos rfl]
        have eE : kE b n p = kB b n p + 1 := by unfold kE; rw [if_neg c, c1, if_neg (by decide), c2, if_neg (by decide)]
        have eV : kV b n p = 0 := by unfold kV; rw [if_neg c, c1, if_neg (by decide), c2, if_neg (by decide)]
        have fin : ∀ y0 : Nat, kS b n p = y0 → ∃ g', (mt_bnd (mt_up (mt_row σ 44 (upd (upd g 4 (nI (kB b n p))) 5 0)) 44 2 (nI y0)) fun s1 => mt_bnd (mt_up s1 44 4 ((s1 44 4) + (1 : Int32))) fun s2 => some ((), s2)) = some ((), mt_row σ 44 g') ∧ g' 3 = nI (kB b n p) ∧ g' 4 = nI (kE b n p) ∧ g' 2 = nI (kS b n p) ∧ g' 5 = nI (kV b n p) ∧ ∀ k, k < 2 ∨ 5 < k → g' k = σ 44 k := by
          intro y0 hy0
          rw [pu_bnd, pu_bnd, row_up, mt_row_s, row_up, eE, eV, hy0]
          refine ⟨_, rfl, ?_, ?_, ?_, ?_, fun k hk => ?_⟩
          · rw [pu_upd_n (by decide), pu_upd_n (by decide)]; exact u3
          · rw [pu_upd_s, pu_upd_n (by decide), pu_upd_n (by decide), pu_upd_s, nI_1]
          · rw [pu_upd_n (by decide), pu_upd_s]
          · rw [pu_upd_n (by decide), pu_upd_n (by decide), pu_upd_s]; rfl
          · rw [pu_upd_n (by omega), pu_upd_n (by omega), pu_upd_n (by omega), pu_upd_n (by omega), gk k (by omega)]
        by_cases c3 : b (kB b n p) = 59
        · rw [if_pos ((sB_59 _ hx).mpr c3)]
          exact fin 3 (by unfold kS; rw [if_neg c, c1, if_neg (by decide), c2, if_neg (by decide), if_pos c3])
        · rw [if_neg (fun z => c3 ((sB_59 _ hx).mp z))]
          exact fin 4 (by unfold kS; rw [if_neg c, c1, if_neg (by decide), c2, if_neg (by decide), if_neg c3])
      · rw [bN_t, if_neg i10', pu_bnd, row_up]
        have eE : kE b n p = (tpD b n n (kB b n p) 0).1 := by unfold kE; rw [if_neg c, c1, if_neg (by decide), c2, if_pos rfl]
        have eV : kV b n p = (tpD b n n (kB b n p) 0).2 := by unfold kV; rw [if_neg c, c1, if_neg (by decide), c2, if_pos rfl]
        have eS : kS b n p = 2 := by unfold kS; rw [if_neg c, c1, if_neg (by decide), c2, if_pos rfl]
        obtain ⟨g', h1, h2, h3, h5⟩ := x_digits hn hb n (kB b n p) 0 5000 (mt_row σ 44 (upd (upd (upd g 4 (nI (kB b n p))) 5 0) 2 2)) (by omega) (by omega) hB.2 (by omega) (hT.row (by rw [pu_upd_n (by decide), pu_upd_n (by decide), pu_upd_n (by decide), gk 1 (by decide)])) (by rw [mt_row_s, pu_upd_n (by decide), pu_upd_n (by decide), pu_upd_s]) (by rw [mt_row_s, pu_upd_n (by decide), pu_upd_s]; rfl)
        rw [pu_row_row] at h1
        unfold fX0_advanceDigits
        rw [h1, pu_call, eE, eV, eS]
        refine ⟨g', rfl, ?_, h2, ?_, h3, fun k hk => ?_⟩
        · rw [h5 3 (by decide) (by decide), mt_row_s, pu_upd_n (by decide)]; exact u3
        · rw [h5 2 (by decide) (by decide), mt_row_s, pu_upd_s]; rfl
        · rw [h5 k (by omega) (by omega), mt_row_s, pu_upd_n (by omega), pu_upd_n (by omega), pu_upd_n (by omega), gk k (by omega)]
    · rw [bN_t, if_neg i10', pu_bnd, row_up]
      have eE : kE b n p = tpL b n n (kB b n p) := by unfold kE; rw [if_neg c, c1, if_pos rfl]
      have eV : kV b n p = 0 := by unfold kV; rw [if_neg c, c1, if_pos rfl]
      have eS : kS b n p = 1 := by unfold kS; rw [if_neg c, c1, if_pos rfl]
      obtain ⟨g', h1, h2, h3⟩ := x_letters hn hb n (kB b n p) 5000 (mt_row σ 44 (upd (upd (upd g 4 (nI (kB b n p))) 5 0) 2 1)) (by omega) (by omega) hB.2 (hT.row (by rw [pu_upd_n (by decide), pu_upd_n (by decide), pu_upd_n (by decide), gk 1 (by decide)])) (by rw [mt_row_s, pu_upd_n (by decide), pu_upd_n (by decide), pu_upd_s])
      rw [pu_row_row] at h1
      unfold fX0_advanceLetters
      rw [h1, pu_call, eE, eV, eS]
      refine ⟨g', rfl, ?_, h2, ?_, ?_, fun k hk => ?_⟩
      · rw [h3 3 (by decide), mt_row_s, pu_upd_n (by decide)]; exact u3
      · rw [h3 2 (by decide), mt_row_s, pu_upd_s]; rfl
      · rw [h3 5 (by decide), mt_row_s, pu_upd_n (by decide), pu_upd_s]; rfl
      · rw [h3 k (by omega), mt_row_s, pu_upd_n (by omega), pu_upd_n (by omega), pu_upd_n (by omega), gk k (by omega)]
