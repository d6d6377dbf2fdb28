/-! pairs at war -/
def prI (p q : Nat) : Nat := min p q * 6 + max p q
def pb (i : Nat) : Int64 := (1 : Int64) <<< (Int32.toInt64 (nI i) &&& 63)
theorem x_prI : ∀ p : Nat, p < 6 → ∀ q : Nat, q < 6 → fX5_pair 5000 (nI p) (nI q) = some (pb (prI p q)) := by decide +kernel
def bt (x : Int64) (i : Nat) : Bool := x.toBitVec.getLsbD i
theorem bt_pb : ∀ j : Nat, j < 36 → ∀ i : Nat, i < 64 → bt (pb j) i = decide (i = j) := by decide +kernel
theorem bt_or (x y : Int64) (i : Nat) : bt (x ||| y) i = (bt x i || bt y i) := by
  unfold bt; rw [Int64.toBitVec_or, BitVec.getLsbD_or]
theorem bt_and (x y : Int64) (i : Nat) : bt (x &&& y) i = (bt x i && bt y i) := by
  unfold bt; rw [Int64.toBitVec_and, BitVec.getLsbD_and]
theorem bt_m1 : ∀ i : Nat, i < 64 → bt (-1) i = true := by decide +kernel
theorem bt_not (x : Int64) {i : Nat} (hi : i < 64) : bt (x ^^^ (-1 : Int64)) i = !bt x i := by
  have := bt_m1 i hi
  unfold bt at *
  rw [Int64.toBitVec_xor, BitVec.getLsbD_xor, this, Bool.xor_true]
theorem bt_0 (i : Nat) : bt 0 i = false := by
  unfold bt; exact BitVec.getLsbD_zero
theorem bt_ext {x y : Int64} (h : ∀ i, i < 64 → bt x i = bt y i) : x = y := by
  apply Int64.toBitVec_inj.mp
  apply BitVec.eq_of_getLsbD_eq
  intro i hi
  exact h i hi
theorem pr_lt : ∀ p : Nat, p < 6 → ∀ q : Nat, q < 6 → prI p q < 36 := by decide +kernel
theorem pr_iff {a b p q : Nat} (ha : a < 6) (hb : b < 6) (hp : p < 6) (hq : q < 6) : ((a = p ∧ b = q) ∨ (a = q ∧ b = p)) ↔ prI a b = prI p q := by
  unfold prI
  omega
def ix (a : AW) (t : Nat) : Nat := prI (Int32.toNatClampNeg (a (4 + t) 1)) (Int32.toNatClampNeg (a (4 + t) 2))
def anyI (a : AW) (i : Nat) : Nat → Bool
  | 0 => false
  | t + 1 => anyI a i t || decide (ix a t = i)
def frcI (a : AW) (i : Nat) : Nat → Bool
  | 0 => false
  | t + 1 => frcI a i t || (decide (ix a t = i) && decide (a (4 + t) 4 = 1))
def warI (a : AW) (i : Nat) : Bool := anyI a i (nA a) && !frcI a i (nA a)
theorem frcI_mono (a : AW) (i : Nat) : ∀ d t, frcI a i t = true → frcI a i (t + d) = true := by
  intro d
  induction d with
  | zero => intro t h; exact h
  | succ d ih => intro t h; show (frcI a i (t + d) || _) = true; rw [ih t h]; rfl
theorem wf_12 {a : AW} {y t : Nat} (hw : wfA a y) (ht : t < nA a) : ∃ p q, p < 6 ∧ q < 6 ∧ p ≠ q ∧ a (4 + t) 1 = nI p ∧ a (4 + t) 2 = nI q ∧ ix a t = prI p q := by
  obtain ⟨-, ⟨p, hp, ep⟩, ⟨q, hq, eq⟩, hne, -⟩ := hw.2.2.2.2.2.2.2 t ht
  refine ⟨p, q, by omega, by omega, fun e => hne (by rw [ep, eq, e]), ep, eq, ?_⟩
  unfold ix
  rw [ep, eq, nI_clamp (by omega), nI_clamp (by omega)]
theorem x_pairs {w y : Nat} {a : AW} {σ : mt_St} (hw : wfA a y) (h : SX a σ w) : ∃ x, fX4_pairsAtWar 5000 σ w = some x ∧ ∀ i, i < 64 → bt x i = warI a i := by
  have hn8 := hw.n8
  have hn := h.n hw
  have lp : ∀ (d t fuel : Nat) (x z : Int64), nA a = t + d → d < fuel → (∀ i, i < 64 → bt x i = anyI a i t) → (∀ i, i < 64 → bt z i = frcI a i t) → ∃ r, bX4_pairsAtWar_7 5000 w σ fuel x z (nI t) = some r ∧ ∀ i, i < 64 → bt r i = warI a i := by
    intro d
    induction d with
    | zero =>
      intro t fuel x z hd hf hx hz
      obtain ⟨fuel, rfl⟩ : ∃ q, fuel = q + 1 := ⟨fuel - 1, by omega⟩
      have : t = nA a := by omega
      subst this
      unfold bX4_pairsAtWar_7
      rw [hn, if_pos (nI_le (Nat.le_refl _) (by omega))]
      refine ⟨_, rfl, fun i hi => ?_⟩
      rw [bt_and, bt_not _ hi, hx i hi, hz i hi]
      rfl
    | succ d ih =>
      intro t fuel x z hd hf hx hz
      obtain ⟨fuel, rfl⟩ : ∃ q, fuel = q + 1 := ⟨fuel - 1, by omega⟩
      have ht := h.2.2.2 t (by omega)
      obtain ⟨p, q, hp, hq, hpq, ep, eq, eix⟩ := wf_12 hw (show t < nA a by omega)
      have hl := pr_lt p hp q hq
      unfold bX4_pairsAtWar_7 bX4_pairsAtWar_65
      rw [hn, if_neg (nI_ge (by omega) (by omega)), pu_chkP (pu_in (by omega) (by decide)), pu_chkP (pu_in (by omega) (by decide)), nI_clamp (by omega), show w + 2 + 2 + t = w + 4 + t by omega, ht 1 (by decide), ht 2 (by decide), ep, eq, x_prI p hp q hq, pu_ask, pu_chkP (pu_in (by omega) (by decide)), ht 4 (by decide), nI_1]
      have hx' : ∀ i, i < 64 → bt (x ||| pb (prI p q)) i = anyI a i (t + 1) := fun i hi => by
        rw [bt_or, hx i hi, bt_pb _ hl i hi]
        show _ = (anyI a i t || decide (ix a t = i))
        rw [eix]
        congr 1
        by_cases e : i = prI p q
        · subst e; rfl
        · rw [decide_eq_false e, decide_eq_false (fun z => e z.symm)]
      by_cases f1 : a (4 + t) 4 = 1
      · rw [if_pos f1]
        refine ih (t + 1) fuel _ _ (by omega) (by omega) hx' (fun i hi => ?_)
        rw [bt_or, hz i hi, bt_pb _ hl i hi]
        show _ = (frcI a i t || (decide (ix a t = i) && decide (a (4 + t) 4 = 1)))
        rw [eix, decide_eq_true f1, Bool.and_true]
        congr 1
        by_cases e : i = prI p q
        · subst e; rfl
        · rw [decide_eq_false e, decide_eq_false (fun z => e z.symm)]
      · rw [if_neg f1]
        refine ih (t + 1) fuel _ _ (by omega) (by omega) hx' (fun i hi => ?_)
        rw [hz i hi]
        show _ = (frcI a i t || (decide (ix a t = i) && decide (a (4 + t) 4 = 1)))
        rw [decide_eq_false f1, Bool.and_false, Bool.or_false]
  unfold fX4_pairsAtWar
  exact lp (nA a) 0 5000 0 0 (by omega) (by omega) (fun i _ => bt_0 i) (fun i _ => bt_0 i)
theorem m_between {fu t p q u v : Nat} {σ : mt_St} (ht : t < 8) (hp : p < 6) (hq : q < 6) (hu : u < 6) (hv : v < 6) (e1 : gT (σ 57) t 1 = nI u) (e2 : gT (σ 57) t 2 = nI v) : fX6_areBetween fu σ (nI t) (nI p) (nI q) = some (bN (decide (prI u v = prI p q))) := by
  have inj : ∀ x y : Nat, x < 6 → y < 6 → (nI x = nI y ↔ x = y) := fun x y hx hy => ⟨fun e => nI_inj (by omega) (by omega) e, fun e => by rw [e]⟩
  have key := pr_iff hu hv hp hq
  unfold fX6_areBetween bX6_areBetween_28 bX6_areBetween_40 bX6_areBetween_44 bX6_areBetween_45
  rw [m_is1 fu σ ht, pu_ask, m_is2 fu σ ht, pu_ask, e1, e2]
  simp only [inj u p hu hp, inj v q hv hq, inj u q hu hq, inj v p hv hp, pu_b0, pu_b1, pu_chk]
  by_cases c : prI u v = prI p q
  · rw [decide_eq_true c, bN_t]
    rcases key.mpr c with ⟨a1, a2⟩ | ⟨a1, a2⟩
    · rw [if_pos a1, if_pos a2]
    · by_cases b1 : u = p
      · rw [if_pos b1]
        by_cases b2 : v = q
        · rw [if_pos b2]
        · rw [if_neg b2, if_pos a1, if_pos a2]
      · rw [if_neg b1, if_pos a1, if_pos a2]
  · rw [decide_eq_false c, bN_f]
    by_cases b1 : u = p
    · rw [if_pos b1]
      by_cases b2 : v = q
      · exact absurd (key.mp (Or.inl ⟨b1, b2⟩)) c
      · rw [if_neg b2]
        by_cases b3 : u = q
        · rw [if_pos b3]
          by_cases b4 : v = p
          · exact absurd (key.mp (Or.inr ⟨b3, b4⟩)) c
          · rw [if_neg b4]
        · rw [if_neg b3]
    · rw [if_neg b1]
      by_cases b3 : u = q
      · rw [if_pos b3]
        by_cases b4 : v = p
        · exact absurd (key.mp (Or.inr ⟨b3, b4⟩)) c
        · rw [if_neg b4]
      · rw [if_neg b3]
theorem m_isWar {y p q : Nat} {a : AW} {σ : mt_St} (hw : wfA a y) (h : SM a (σ 57)) (hp : p < 6) (hq : q < 6) : fX6_isWar 5000 σ (nI p) (nI q) = some (bN (warI a (prI p q))) := by
  have hn8 := hw.n8
  have hn : σ 57 1 = nI (nA a) := h.n hw
  have lp : ∀ (d t fuel : Nat), nA a = t + d → d < fuel → frcI a (prI p q) t = false → bX6_isWar_5 5000 σ fuel (nI p) (nI q) (bN (anyI a (prI p q) t)) (nI t) = some (bN (warI a (prI p q))) := by
    intro d
    induction d with
    | zero =>
      intro t fuel hd hf hz
      obtain ⟨fuel, rfl⟩ : ∃ q, fuel = q + 1 := ⟨fuel - 1, by omega⟩
      have : t = nA a := by omega
      subst this
      unfold bX6_isWar_5 warI
      rw [hn, if_pos (nI_le (Nat.le_refl _) (by omega)), bN_c, pu_chk, hz, Bool.not_false, Bool.and_true]
    | succ d ih =>
      intro t fuel hd hf hz
      obtain ⟨fuel, rfl⟩ : ∃ q, fuel = q + 1 := ⟨fuel - 1, by omega⟩
      have ht := h.T (show t < nA a by omega)
      obtain ⟨u, v, hu, hv, huv, eu, ev, eix⟩ := wf_12 hw (show t < nA a by omega)
      have ea : anyI a (prI p q) (t + 1) = (anyI a (prI p q) t || decide (prI u v = prI p q)) := by rw [← eix]; rfl
      have ef : frcI a (prI p q) (t + 1) = (frcI a (prI p q) t || (decide (prI u v = prI p q) && decide (a (4 + t) 4 = 1))) := by rw [← eix]; rfl
      unfold bX6_isWar_5 bX6_isWar_42
      rw [hn, if_neg (nI_ge (by omega) (by omega)), m_between (show t < 8 by omega) hp hq hu hv ((ht 1 (by decide)).trans eu) ((ht 2 (by decide)).trans ev), pu_ask, m_is4 5000 σ (show t < 8 by omega), pu_ask, ht 4 (by decide), nI_1]
      by_cases c : prI u v = prI p q
      · rw [decide_eq_true c] at ea ef ⊢
        rw [bN_t, if_neg i10']
        by_cases f1 : a (4 + t) 4 = 1
        · rw [if_pos f1]
          rw [decide_eq_true f1, Bool.and_true, Bool.or_true] at ef
          have := frcI_mono a (prI p q) d (t + 1) ef
          rw [show t + 1 + d = nA a by omega] at this
          unfold warI
          rw [this, Bool.not_true, Bool.and_false, bN_f]
        · rw [if_neg f1]
          rw [decide_eq_false f1, Bool.and_false, Bool.or_false, hz] at ef
          have := ih (t + 1) fuel (by omega) (by omega) ef
          rw [ea, Bool.or_true, bN_t] at this
          exact this
      · rw [decide_eq_false c] at ea ef ⊢
        rw [bN_f, if_pos rfl]
        rw [Bool.false_and, Bool.or_false, hz] at ef
        have := ih (t + 1) fuel (by omega) (by omega) ef
        rw [ea, Bool.or_false] at this
        exact this
  unfold fX6_isWar
  exact lp (nA a) 0 5000 (by omega) (by omega) rfl
