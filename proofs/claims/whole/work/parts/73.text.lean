/-! texts: what comes of all items -/
def okI (a : AW) (t : Nat → Int32) : Prop := t 0 = 10 ∨ t 0 = 11 ∨ (t 0 = 12 ∧ ∃ i, i ≤ 5 ∧ t 1 = nI i) ∨ (nA a < 8 ∧ ∃ w, w ≤ 6 ∧ t 0 = nI w)
theorem api_ok {b : Nat → Nat} {n p y : Nat} {a : AW} (hw : wfA a y) (h : (itS b n (nA a) p).1 = false) : wfA (apI a (itI b n (nA a) p)) y ∧ nA (apI a (itI b n (nA a) p)) = itC b n (nA a) p ∧ okI a (itI b n (nA a) p) := by
  unfold itS at h
  unfold itI itC
  rcases rkd_c b n p 7 with ⟨w, hw7, h1, h2⟩ | ⟨h1, h2⟩
  · have hr : 0 ≤ rkd b n p 7 := by rw [h2]; exact nI_le (a := 0) (by omega) (by omega)
    rw [if_pos hr] at h
    rw [if_pos hr, if_pos hr, h2, apI_t (by omega)]
    have z8 := (q6_in h).1
    exact ⟨wf_sign hw z8 (fT_wf hw (by omega) h), (signA_f z8).1, Or.inr (Or.inr (Or.inr ⟨z8, w, by omega, rfl⟩))⟩
  · have hr : ¬ 0 ≤ rkd b n p 7 := by rw [h2]; decide
    rw [if_neg hr] at h
    rw [if_neg hr, if_neg hr]
    have one : ∀ k : Nat, (k = 0 ∨ k = 1) → (nu b n (false, kE b n p) 4095).1 = false → wfA (mt_row a 0 (upd (a 0) k (nI (kV b n (kE b n p))))) y ∧ nA (mt_row a 0 (upd (a 0) k (nI (kV b n (kE b n p))))) = nA a := fun k hk z => by
      have v := (isNm_r (mu_ok z).2).2
      have v' : kV b n (kE b n p) ≤ 4095 := v
      exact ⟨wf_num hw hk ⟨_, by omega, rfl⟩, by unfold nA; rw [mt_row_s, pu_upd_n (by omega)]⟩
    cases w10 : isWd b n p 10
    · rw [w10, if_neg (show ¬ false = true by decide)] at h
      rw [if_neg (show ¬ false = true by decide)]
      cases w11 : isWd b n p 11
      · rw [w11, if_neg (show ¬ false = true by decide)] at h
        rw [if_neg (show ¬ false = true by decide)]
        cases w12 : isWd b n p 12
        · rw [w12, if_neg (show ¬ false = true by decide)] at h
          cases h
        · rw [w12, if_pos rfl] at h
          obtain ⟨z1, z2⟩ := mu_ok h
          have v2 := (isNm_r z2).2
          have v1 := (isNm_r (mu_ok z1).2).2
          have v1' : kV b n (kE b n p) ≤ 5 := v1
          have ea : apI a (it6 12 (nI (kV b n (kE b n p))) (nI (kV b n (nu b n (false, kE b n p) 5).2)) 0 0 0) = mt_row a 1 (upd (a 1) (kV b n (kE b n p)) (nI (kV b n (nu b n (false, kE b n p) 5).2))) := by
            unfold apI
            rw [it6_0, if_neg (by decide), if_neg (by decide), if_pos rfl]
            show mt_row a 1 (upd (a 1) (Int32.toNatClampNeg (nI (kV b n (kE b n p)))) (nI (kV b n (nu b n (false, kE b n p) 5).2))) = _
            rw [nI_clamp (by omega)]
          rw [ea]
          exact ⟨wf_evt hw v2, by unfold nA; rw [mt_row_n (by decide)], Or.inr (Or.inr (Or.inl ⟨rfl, _, v1', rfl⟩))⟩
      · rw [w11, if_pos rfl] at h
        rw [if_pos rfl]
        have := one 1 (Or.inr rfl) h
        exact ⟨this.1, this.2, Or.inr (Or.inl rfl)⟩
    · rw [w10, if_pos rfl] at h
      rw [if_pos rfl]
      have := one 0 (Or.inl rfl) h
      exact ⟨this.1, this.2, Or.inl rfl⟩
theorem isWd_gt {b : Nat → Nat} {n p w : Nat} (hb : ∀ k, k < n → b k < 256) (hp : p ≤ n) (h : isWd b n p w = true) : p < kE b n p := by
  unfold isWd at h
  rw [Bool.and_eq_true, decide_eq_true_eq] at h
  have h1 := kE_r hb hp
  have h2 := kB_r (b := b) hp
  have := h1.2.2 (by rw [h.1]; decide)
  omega
theorem itS_gt {b : Nat → Nat} {n c p : Nat} (hb : ∀ k, k < n → b k < 256) (hp : p ≤ n) : (itS b n c p).2 ≤ n ∧ ((itS b n c p).1 = false → p < (itS b n c p).2) := by
  have l1 := (kE_r hb hp).2.1
  unfold itS
  rcases rkd_c b n p 7 with ⟨w, hw7, h1, h2⟩ | ⟨h1, h2⟩
  · have hr : 0 ≤ rkd b n p 7 := by rw [h2]; exact nI_le (a := 0) (by omega) (by omega)
    rw [if_pos hr]
    have k1 : (q1 b n c p).2 ≤ n := (mu_le hb hp).1
    have k2 : (q2 b n c p).2 ≤ n ∧ (q1 b n c p).2 ≤ (q2 b n c p).2 := mu_le hb k1
    have k3 : (q3 b n c p).2 ≤ n ∧ (q2 b n c p).2 ≤ (q3 b n c p).2 := mu_le hb k2.1
    have k4 : (q4 b n c p).2 ≤ n ∧ (q3 b n c p).2 ≤ (q4 b n c p).2 := tm_le hb k3.1
    have k5 : (q5 b n c p).2 ≤ n ∧ (q4 b n c p).2 ≤ (q5 b n c p).2 := tm_le hb k4.1
    have k6 : (q6 b n c p).2 ≤ n ∧ (q5 b n c p).2 ≤ (q6 b n c p).2 := aft_le hb k5.1
    refine ⟨k6.1, fun z => ?_⟩
    have z8 := (q6_in z).1
    have e1 : q1 b n c p = (false, kE b n p) := by unfold q1; rw [decide_eq_true z8]; exact mu_y rfl
    have e2 : (q1 b n c p).2 = kE b n p := by rw [e1]
    have := isWd_gt hb hp h1
    omega
  · have hr : ¬ 0 ≤ rkd b n p 7 := by rw [h2]; decide
    rw [if_neg hr]
    have k1 : ∀ lim, (nu b n (false, kE b n p) lim).2 ≤ n ∧ kE b n p ≤ (nu b n (false, kE b n p) lim).2 := fun lim => mu_le (s := (false, kE b n p)) hb l1
    cases w10 : isWd b n p 10
    · rw [if_neg (show ¬ false = true by decide)]
      cases w11 : isWd b n p 11
      · rw [if_neg (show ¬ false = true by decide)]
        cases w12 : isWd b n p 12
        · rw [if_neg (show ¬ false = true by decide)]
          exact ⟨hp, fun z => by cases z⟩
        · rw [if_pos rfl]
          have k2 : (nu b n (nu b n (false, kE b n p) 5) 12).2 ≤ n ∧ (nu b n (false, kE b n p) 5).2 ≤ (nu b n (nu b n (false, kE b n p) 5) 12).2 := mu_le hb (k1 5).1
          have := isWd_gt hb hp w12
          have := k1 5
          exact ⟨k2.1, fun _ => by omega⟩
      · rw [if_pos rfl]
        have := isWd_gt hb hp w11
        have := k1 4095
        exact ⟨this.1, fun _ => by omega⟩
    · rw [if_pos rfl]
      have := isWd_gt hb hp w10
      have := k1 4095
      exact ⟨this.1, fun _ => by omega⟩
def pT (b : Nat → Nat) (n : Nat) : Nat → Nat → AW → Nat → Int32 × Option AW
  | 0, _, _, _ => (0, none)
  | f + 1, i, a, p => if (itS b n (nA a) p).1 = true then (-1 - nI (kB b n (itS b n (nA a) p).2), none) else if kS b n (itS b n (nA a) p).2 = 0 then (nI (i + 1), some (apI a (itI b n (nA a) p))) else if kS b n (itS b n (nA a) p).2 = 3 then pT b n f (i + 1) (apI a (itI b n (nA a) p)) (kE b n (itS b n (nA a) p).2) else (-1 - nI (kB b n (itS b n (nA a) p).2), none)
theorem pT_s (b : Nat → Nat) (n f i : Nat) (a : AW) (p : Nat) : pT b n (f + 1) i a p = if (itS b n (nA a) p).1 = true then (-1 - nI (kB b n (itS b n (nA a) p).2), none) else if kS b n (itS b n (nA a) p).2 = 0 then (nI (i + 1), some (apI a (itI b n (nA a) p))) else if kS b n (itS b n (nA a) p).2 = 3 then pT b n f (i + 1) (apI a (itI b n (nA a) p)) (kE b n (itS b n (nA a) p).2) else (-1 - nI (kB b n (itS b n (nA a) p).2), none) := rfl
theorem neg_kB : ∀ k : Nat, k < 121 → (-1 : Int32) - nI k < 0 := by decide +kernel
theorem x_readLoop {b : Nat → Nat} {n y : Nat} (hn : n ≤ 120) (hb : ∀ k, k < n → b k < 256) : ∀ (f i p : Nat) (a : AW) (σ : mt_St) (fuel : Nat), n + 1 ≤ f + p → p ≤ n → 2 * i ≤ p → f < fuel → TX b n σ → CX b n σ p → wfA a y → SX a σ 25 → ∃ σ', bX0_readInto_11 5000 25 fuel σ (nI (i + 1)) = some ((pT b n f i a p).1, σ') ∧ frQ σ σ' ∧ ((pT b n f i a p).2 = none → (pT b n f i a p).1 < 0) ∧ ∀ a', (pT b n f i a p).2 = some a' → ¬ (pT b n f i a p).1 < 0 ∧ SX a' σ' 25 ∧ wfA a' y := by
  intro f
  induction f with
  | zero => intro i p a σ fuel h1 h2; omega
  | succ f ih =>
    intro i p a σ fuel h1 h2 h3 hf hT hC hw h
    obtain ⟨fuel, rfl⟩ : ∃ q, fuel = q + 1 := ⟨fuel - 1, by omega⟩
    obtain ⟨σ1, a1, a2, a3, a4⟩ := x_item hn hb h2 hT hC hw h
    obtain ⟨lq, gq⟩ := itS_gt (c := nA a) hb h2
    have hS := kS_r b n (itS b n (nA a) p).2
    have hB := kB_r (b := b) lq
    rw [pT_s]
    unfold bX0_readInto_11 bX0_readInto_58
    rw [if_neg (show ¬ (120 : Int32) < nI (i + 1) from nI_nlt (a := 120) (by omega) (by decide)), a1, pu_call, a2.1, a2.2.2.1]
    have bad : ∃ σ', some ((-1 : Int32) - nI (kB b n (itS b n (nA a) p).2), σ1) = some ((-1 : Int32) - nI (kB b n (itS b n (nA a) p).2), σ') ∧ frQ σ σ' ∧ ((none : Option AW) = none → (-1 : Int32) - nI (kB b n (itS b n (nA a) p).2) < 0) ∧ ∀ a', (none : Option AW) = some a' → ¬ (-1 : Int32) - nI (kB b n (itS b n (nA a) p).2) < 0 ∧ SX a' σ' 25 ∧ wfA a' y := ⟨σ1, rfl, a3, fun _ => neg_kB _ (by omega), fun a' z => by cases z⟩
    cases z : (itS b n (nA a) p).1
    · rw [Bool.not_false, bN_t, if_neg i10', if_neg (show ¬ false = true by decide)]
      have a4 := a4 z
      by_cases c0 : kS b n (itS b n (nA a) p).2 = 0
      · rw [if_pos (show nI (kS b n (itS b n (nA a) p).2) = 0 by rw [c0]; rfl), if_pos c0]
        refine ⟨σ1, rfl, a3, fun y => ?_, fun a' e => ?_⟩
        · cases y
        · injection e with e
          subst e
          exact ⟨nI_pos (by omega), a4.1, a4.2.1⟩
      · rw [if_neg (show ¬ nI (kS b n (itS b n (nA a) p).2) = 0 from fun y => c0 (nI_inj (i := kS b n (itS b n (nA a) p).2) (t := 0) (by omega) (by omega) y)), if_neg c0]
        by_cases c3 : kS b n (itS b n (nA a) p).2 = 3
        · rw [if_pos (show nI (kS b n (itS b n (nA a) p).2) = 3 by rw [c3]; rfl), if_pos c3]
          have T1 := hT.fr a3
          obtain ⟨σ2, b1, b2, b3⟩ := x_ad hn hb lq T1 a2
          have hE := kE_r hb lq
          have := gq z
          have := hE.2.2 (by omega)
          obtain ⟨σ3, c1, c2, c3, c4⟩ := ih (i + 1) (kE b n (itS b n (nA a) p).2) (apI a (itI b n (nA a) p)) σ2 fuel (by omega) hE.2.1 (by omega) (by omega) (T1.fr b3.frQ) b2 a4.2.1 (a4.1.sx a4.2.1.n8 b3)
          rw [b1, pu_call, nI_1]
          exact ⟨σ3, c1, (a3.tr b3.frQ).tr c2, c3, c4⟩
        · rw [if_neg (show ¬ nI (kS b n (itS b n (nA a) p).2) = 3 from fun y => c3 (nI_inj (i := kS b n (itS b n (nA a) p).2) (t := 3) (by omega) (by omega) y)), if_neg c3]
          exact bad
    · rw [Bool.not_true, bN_f, if_pos rfl, if_pos rfl]
      exact bad
/-! the reference makes it so -/
theorem SM.sign {a : AW} {r r' : Nat → Int32} {T : Nat → Int32} (h : SM a r) (hn8 : nA a < 8) (h1 : ∀ q, q < 22 + 8 * nA a → q ≠ 1 → r' q = r q) (h11 : r' 1 = nI (nA a + 1)) (hg : tE (gT r' (nA a)) T) : SM (signA a T) r' := by
  obtain ⟨⟨f0, f1, f3, f4, f5, f7⟩, gl, gs, gt⟩ := h
  obtain ⟨s1, s2, s3, s4, s5, s6⟩ := signA_f (T := T) hn8
  unfold SM
  rw [s1, s2, s3, s4, h11, h1 4 (by omega) (by omega), h1 5 (by omega) (by omega), h1 3 (by omega) (by omega), h1 0 (by omega) (by omega), h1 2 (by omega) (by omega)]
  refine ⟨⟨f0, f1, f3, f4, f5, rfl⟩, fun i hi => ?_, fun i hi => ?_, fun t htn => ?_⟩
  · rw [h1 _ (by omega) (by omega)]; exact gl i hi
  · rw [h1 _ (by omega) (by omega)]; exact gs i hi
  · by_cases q : t = nA a
    · rw [q, s5]; exact hg
    · rw [s6 t (by omega)]
      intro k hk
      rw [← gt t (by omega) k hk]
      exact h1 _ (by omega) (by omega)
theorem SM.signU {a : AW} {r : Nat → Int32} {k : Nat} {v : Int32} {T : Nat → Int32} (h : SM (signA a T) r) (hn8 : nA a < 8) (hk : k < 8) : SM (signA a (upd T k v)) (upd r (22 + 8 * nA a + k) v) := by
  obtain ⟨s1, s2, s3, s4, s5, s6⟩ := signA_f (T := T) hn8
  have := h.field (t := nA a) (k := k) (v := v) (by rw [s1]; omega) hk
  rw [s5] at this
  have e : mt_row (signA a T) (4 + nA a) (upd T k v) = signA a (upd T k v) := pu_row_row _ _ _ _
  rw [e] at this
  exact this
theorem SM.signE {a : AW} {r : Nat → Int32} {T T' : Nat → Int32} (h : SM (signA a T) r) (hn8 : nA a < 8) (hE : tE T T') : SM (signA a T') r := by
  obtain ⟨s1, s2, s3, s4, s5, s6⟩ := signA_f (T := T) hn8
  obtain ⟨r1, r2, r3, r4, r5, r6⟩ := signA_f (T := T') hn8
  obtain ⟨e, hl, hs, ht⟩ := h
  rw [s2] at e
  rw [s3] at hl
  rw [s4] at hs
  rw [s1] at ht
  unfold SM
  rw [r1, r2, r3, r4]
  refine ⟨e, hl, hs, fun t htn => ?_⟩
  have := ht t htn
  by_cases q : t = nA a
  · subst q
    rw [s5] at this
    rw [r5]
    exact fun k hk => (this k hk).trans (hE k hk)
  · rw [s6 t (by omega)] at this
    rw [r6 t (by omega)]
    exact this
theorem SM.num {a : AW} {r : Nat → Int32} {k m : Nat} {v : Int32} (h : SM a r) (hk : (k = 0 ∧ m = 4) ∨ (k = 1 ∧ m = 5)) : SM (mt_row a 0 (upd (a 0) k v)) (upd r m v) := by
  obtain ⟨⟨f0, f1, f3, f4, f5, f7⟩, gl, gs, gt⟩ := h
  have hn : nA (mt_row a 0 (upd (a 0) k v)) = nA a := by unfold nA; rw [mt_row_s, pu_upd_n (by omega)]
  unfold SM
  rw [hn, mt_row_s, mt_row_n (show 1 ≠ 0 by decide), mt_row_n (show 3 ≠ 0 by decide)]
  refine ⟨?_, fun i hi => by rw [pu_upd_n (by omega)]; exact gl i hi, fun i hi => by rw [pu_upd_n (by omega)]; exact gs i hi, fun t htn j hj => ?_⟩
  · rcases hk with ⟨rfl, rfl⟩ | ⟨rfl, rfl⟩
    · exact ⟨rfl, f1, f3, f4, f5, f7⟩
    · exact ⟨f0, rfl, f3, f4, f5, f7⟩
  · show upd r m v (22 + 8 * t + j) = _
    rw [mt_row_n (by omega), pu_upd_n (by omega)]; exact gt t htn j hj
theorem SM.evt {a : AW} {r : Nat → Int32} {i : Nat} {v : Int32} (h : SM a r) (hi : i ≤ 5) : SM (mt_row a 1 (upd (a 1) i v)) (upd r (6 + i) v) := by
  obtain ⟨f0, gl, gs, gt⟩ := h
  have hn : nA (mt_row a 1 (upd (a 1) i v)) = nA a := by unfold nA; rw [mt_row_n (by decide)]
  unfold SM
  rw [hn, mt_row_n (show 0 ≠ 1 by decide), mt_row_s, mt_row_n (show 3 ≠ 1 by decide)]
  refine ⟨?_, fun k hk => ?_, fun k hk => by rw [pu_upd_n (by omega)]; exact gs k hk, fun t htn j hj => ?_⟩
  · rw [pu_upd_n (by omega), pu_upd_n (by omega), pu_upd_n (by omega), pu_upd_n (by omega), pu_upd_n (by omega), pu_upd_n (by omega)]; exact f0
  · by_cases q : k = i
    · subst q; rw [pu_upd_s, pu_upd_s]
    · rw [pu_upd_n (by omega), pu_upd_n q]; exact gl k hk
  · show upd r (6 + i) v (22 + 8 * t + j) = _
    rw [mt_row_n (by omega), pu_upd_n (by omega)]; exact gt t htn j hj
theorem m_so1 {a : AW} {y j : Nat} {t : Nat → Int32} {σ : mt_St} (hj : j ≤ 100) (hw : wfA a y) (h : SM a (σ 57)) (hI : ∀ k, k < 6 → σ 63 (6 * j + k) = t k) (ho : okI a t) : ∃ r, fX6_isToldSo 5000 σ (nI (6 * j)) = some ((), mt_row σ 57 r) ∧ SM (apI a t) r := by
  obtain ⟨hn8, h7⟩ := hw.n
  have i1 : σ 57 1 = nI (nA a) := h.1.2.2.2.2.2.trans h7
  have ek : ∀ k : Nat, nI (6 * j) + nI k = nI (6 * j + k) := fun k => nI_add _ _
  have i0 : σ 63 (6 * j) = t 0 := hI 0 (by decide)
  unfold fX6_isToldSo bX6_isToldSo_167
  rw [show (1 : Int32) = nI 1 from rfl, show (2 : Int32) = nI 2 from rfl, show (3 : Int32) = nI 3 from rfl, ek, ek, ek, pu_chkP (pu_in (by omega) (by decide)), pu_chkP (pu_in (by omega) (by decide)), pu_chkP (pu_in (by omega) (by decide)), nI_clamp (show 6 * j < 2 ^ 31 by omega), nI_clamp (show 6 * j + 1 < 2 ^ 31 by omega), nI_clamp (show 6 * j + 2 < 2 ^ 31 by omega), i0, hI 1 (by decide), hI 2 (by decide)]
  unfold apI
  by_cases c10 : t 0 = 10
  · rw [if_pos c10, if_pos c10, pu_bnd]
    exact ⟨_, rfl, h.num (Or.inl ⟨rfl, rfl⟩)⟩
  rw [if_neg c10, if_neg c10]
  by_cases c11 : t 0 = 11
  · rw [if_pos c11, if_pos c11, pu_bnd]
    exact ⟨_, rfl, h.num (Or.inr ⟨rfl, rfl⟩)⟩
  rw [if_neg c11, if_neg c11]
  by_cases c12 : t 0 = 12
  · rcases ho with q | q | ⟨-, i, hi, ei⟩ | ⟨-, w, hw6, ew⟩
    · exact absurd q c10
    · exact absurd q c11
    · rw [if_pos c12, if_pos c12, ei, show (6 : Int32) + nI i = nI (6 + i) from nI_add 6 i, pu_chkP (pu_in (by omega) (by decide)), pu_bnd, nI_clamp (by omega), nI_clamp (by omega)]
      exact ⟨_, rfl, h.evt hi⟩
    · rw [c12] at ew
      have := nI_inj (i := 12) (t := w) (by omega) (by omega) ew
      omega
  rw [if_neg c12, if_neg c12]
  rcases ho with q | q | ⟨q, -⟩ | ⟨z8, w, hw6, ew⟩
  · exact absurd q c10
  · exact absurd q c11
  · exact absurd q c12
  obtain ⟨r, g1, g2, g3, g4⟩ := m_comesLoop (n := nA a) (k := t 0) (p := t 1) (q := t 2) z8 8 0 5000 σ (by omega) (by omega) i1
  have g4 := g4 (fun j h5 hj => by omega)
  rw [h.1.1] at g4
  have s0 : SM (signA a (newT (t 0) (t 1) (t 2) (a 0 0))) r := h.sign z8 (fun q h1 h2 => g2 q (Or.inl h1) h2) g3 g4
  have com : fX6_comes 5000 σ (t 0) (t 1) (t 2) = some (nI (nA a), mt_row σ 57 r) := by
    unfold fX6_comes
    rw [i1]
    exact g1
  have i63 : ∀ r' : Nat → Int32, mt_row σ 57 r' 63 = σ 63 := fun r' => mt_row_n (by decide)
  rw [pu_chkP (pu_in (by omega) (by decide)), com, pu_call, pu_chkP (pu_in (by omega) (by decide)), nI_clamp (show 6 * j + 3 < 2 ^ 31 by omega), i63, hI 3 (by decide)]
  have fin : ∀ (r1 : Nat → Int32) (T : Nat → Int32), SM (signA a T) r1 → ∃ r2, bX6_isToldSo_129 5000 (mt_row σ 57 r1) (nI (6 * j)) (nI (nA a)) = some ((), mt_row σ 57 r2) ∧ SM (signA a (upd (upd T 5 (t 4)) 4 (t 5))) r2 := by
    intro r1 T hs
    refine ⟨upd (upd r1 (22 + 8 * nA a + 5) (t 4)) (22 + 8 * nA a + 4) (t 5), ?_, (hs.signU z8 (by decide)).signU z8 (by decide)⟩
    unfold bX6_isToldSo_129 bX6_isToldSo_167
    rw [m_at5, pu_ask, show (4 : Int32) = nI 4 from rfl, show (5 : Int32) = nI 5 from rfl, ek, ek, pu_chkP (pu_in (by omega) (by decide)), pu_chkP (pu_in (by omega) (by decide)), pu_bnd, nI_clamp (show 6 * j + 4 < 2 ^ 31 by omega), nI_clamp (show 22 + 8 * nA a + 5 < 2 ^ 31 by omega), i63, hI 4 (by decide), row_up, show nI 4 = (4 : Int32) from rfl, m_at4, pu_ask, pu_chkP (pu_in (by omega) (by decide)), pu_chkP (pu_in (by omega) (by decide)), pu_bnd, nI_clamp (show 6 * j + 5 < 2 ^ 31 by omega), nI_clamp (show 22 + 8 * nA a + 4 < 2 ^ 31 by omega), i63, hI 5 (by decide), row_up]
  by_cases c3 : t 3 < 0
  · obtain ⟨r2, k1, k2⟩ := fin r _ s0
    rw [if_pos c3, if_pos c3, k1]
    exact ⟨r2, rfl, k2.signE z8 (tE_cases rfl rfl rfl rfl rfl rfl rfl rfl)⟩
  · rw [if_neg c3, if_neg c3, show nI 3 = (3 : Int32) from rfl, m_at3, pu_ask, pu_chkP (pu_in (by omega) (by decide)), pu_chkP (pu_in (by omega) (by decide)), pu_bnd, nI_clamp (show 22 + 8 * nA a + 3 < 2 ^ 31 by omega), row_up]
    obtain ⟨r2, k1, k2⟩ := fin (upd r (22 + 8 * nA a + 3) (t 3)) _ (s0.signU z8 (by decide))
    rw [k1]
    exact ⟨r2, rfl, k2.signE z8 (tE_cases rfl rfl rfl rfl rfl rfl rfl rfl)⟩
def fo (I : Nat → Nat → Int32) (a : AW) : Nat → AW
  | 0 => a
  | j + 1 => apI (fo I a j) (I j)
theorem fo_cg {I J : Nat → Nat → Int32} {a : AW} : ∀ i, (∀ j, j < i → I j = J j) → fo I a i = fo J a i := by
  intro i
  induction i with
  | zero => intro _; rfl
  | succ i ih => intro h; show apI (fo I a i) (I i) = apI (fo J a i) (J i); rw [ih (fun j hj => h j (by omega)), h i (by omega)]
theorem m_apply {I : Nat → Nat → Int32} {a0 : AW} {y m : Nat} (hm : m ≤ 100) (hw : ∀ j, j ≤ m → wfA (fo I a0 j) y) (ho : ∀ j, j < m → okI (fo I a0 j) (I j)) : ∀ (d j fuel : Nat) (σ : mt_St), m = j + d → d < fuel → σ 56 15 = nI m → (∀ j, j < m → ∀ k, k < 6 → σ 63 (6 * j + k) = I j k) → SM (fo I a0 j) (σ 57) → ∃ r, bX6_text_111 5000 fuel σ (nI j) = some (nI m, mt_row σ 57 r) ∧ SM (fo I a0 m) r := by
  intro d
  induction d with
  | zero =>
    intro j fuel σ hd hf h15 hI h
    obtain ⟨fuel, rfl⟩ : ∃ q, fuel = q + 1 := ⟨fuel - 1, by omega⟩
    have : j = m := by omega
    subst this
    unfold bX6_text_111
    rw [h15, if_pos (nI_le (Nat.le_refl _) (by omega))]
    exact ⟨σ 57, by rw [mt_row_same], h⟩
  | succ d ih =>
    intro j fuel σ hd hf h15 hI h
    obtain ⟨fuel, rfl⟩ : ∃ q, fuel = q + 1 := ⟨fuel - 1, by omega⟩
    obtain ⟨r, g1, g2⟩ := m_so1 (j := j) (t := I j) (by omega) (hw j (by omega)) h (fun k hk => hI j (by omega) k hk) (ho j (by omega))
    obtain ⟨r', k1, k2⟩ := ih (j + 1) fuel (mt_row σ 57 r) (by omega) (by omega) (by rw [mt_row_n (by decide)]; exact h15) (fun j hj k hk => by rw [mt_row_n (by decide)]; exact hI j hj k hk) (by rw [mt_row_s]; exact g2)
    rw [pu_row_row] at k1
    refine ⟨r', ?_, k2⟩
    unfold bX6_text_111
    rw [h15, if_neg (nI_ge (by omega) (by omega)), show (6 : Int32) * nI j = nI (6 * j) from pk_mul 6 j, g1, pu_call, nI_1]
    exact k1
