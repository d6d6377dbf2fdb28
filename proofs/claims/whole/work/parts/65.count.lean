/-! counting by the figures that weigh -/
theorem sumN_split (f : Nat → Nat) (a : Nat) : ∀ b, sumN f (a + b) = sumN f a + sumN (fun k => f (a + k)) b := by
  intro b
  induction b with
  | zero => rfl
  | succ b ih =>
    show sumN f (a + b) + f (a + b) = sumN f a + (sumN (fun k => f (a + k)) b + f (a + b))
    rw [ih]; omega
theorem sumN_0 {f : Nat → Nat} : ∀ n, (∀ t, t < n → f t = 0) → sumN f n = 0 := by
  intro n
  induction n with
  | zero => intro _; rfl
  | succ n ih => intro h; show sumN f n + f n = 0; rw [ih (fun t ht => h t (by omega)), h n (by omega)]
theorem tp_b {m n : Nat} (h : m < 2 ^ n) (i : Nat) : (2 ^ n + m).testBit i = (decide (i = n) || m.testBit i) := by
  rcases Nat.lt_trichotomy i n with q | q | q
  · rw [Nat.testBit_two_pow_add_gt q, decide_eq_false (by omega), Bool.false_or]
  · subst q
    rw [Nat.testBit_two_pow_add_eq, Nat.testBit_lt_two_pow h, decide_eq_true rfl]
    rfl
  · have h2 : 2 ^ n + m < 2 ^ i := by
      have : 2 ^ (n + 1) ≤ 2 ^ i := Nat.pow_le_pow_right (by decide) q
      rw [Nat.pow_succ] at this
      omega
    rw [Nat.testBit_lt_two_pow h2, Nat.testBit_lt_two_pow (by omega), decide_eq_false (by omega)]
    rfl
theorem tp_and {m n W : Nat} (h : m < 2 ^ n) : (2 ^ n + m) &&& W = if W.testBit n = true then 2 ^ n + (m &&& W) else m &&& W := by
  have hmw : m &&& W < 2 ^ n := Nat.lt_of_le_of_lt Nat.and_le_left h
  by_cases q : W.testBit n = true
  · rw [if_pos q]
    apply Nat.eq_of_testBit_eq
    intro i
    rw [Nat.testBit_and, tp_b h, tp_b hmw, Nat.testBit_and]
    by_cases z : i = n
    · subst z; rw [q, decide_eq_true rfl]; simp
    · rw [decide_eq_false z, Bool.false_or, Bool.false_or]
  · rw [if_neg q]
    apply Nat.eq_of_testBit_eq
    intro i
    rw [Nat.testBit_and, tp_b h, Nat.testBit_and]
    by_cases z : i = n
    · subst z
      have : W.testBit i = false := by simpa using q
      rw [this, Bool.and_false, Bool.and_false]
    · rw [decide_eq_false z, Bool.false_or]
theorem cnt_sum (W : Nat) : ∀ (n : Nat) (f : Nat → Nat), sumN (fun m => f (m &&& W)) (2 ^ n) = 2 ^ (n - bsum W n) * sumN (fun m => if m &&& W = m then f m else 0) (2 ^ n) := by
  intro n
  induction n with
  | zero =>
    intro f
    show 0 + f (0 &&& W) = 1 * (0 + if 0 &&& W = 0 then f 0 else 0)
    rw [Nat.zero_and, if_pos rfl]
    omega
  | succ n ih =>
    intro f
    have hb := bsum_n W n
    have e2 : 2 ^ (n + 1) = 2 ^ n + 2 ^ n := by rw [Nat.pow_succ]; omega
    rw [e2, sumN_split, sumN_split, ih f]
    by_cases q : W.testBit n = true
    · have eb : bsum W (n + 1) = bsum W n + 1 := by show bsum W n + (W.testBit n).toNat = _; rw [q]; rfl
      have g1 : sumN (fun k => f ((2 ^ n + k) &&& W)) (2 ^ n) = sumN (fun k => (fun x => f (2 ^ n + x)) (k &&& W)) (2 ^ n) := sumN_cg _ (fun t ht => by
        rw [tp_and ht, if_pos q])
      have g2 : sumN (fun k => if (2 ^ n + k) &&& W = 2 ^ n + k then f (2 ^ n + k) else 0) (2 ^ n) = sumN (fun k => if k &&& W = k then (fun x => f (2 ^ n + x)) k else 0) (2 ^ n) := sumN_cg _ (fun t ht => by
        rw [tp_and ht, if_pos q]
        by_cases z : t &&& W = t
        · rw [if_pos z, z, if_pos rfl]
        · rw [if_neg z, if_neg (by omega)])
      rw [g1, g2, ih (fun x => f (2 ^ n + x)), eb, show n + 1 - (bsum W n + 1) = n - bsum W n by omega, Nat.mul_add]
    · have q0 : W.testBit n = false := by simpa using q
      have eb : bsum W (n + 1) = bsum W n := by show bsum W n + (W.testBit n).toNat = _; rw [q0]; rfl
      have g1 : sumN (fun k => f ((2 ^ n + k) &&& W)) (2 ^ n) = sumN (fun k => f (k &&& W)) (2 ^ n) := sumN_cg _ (fun t ht => by
        rw [tp_and ht, if_neg q])
      have g2 : sumN (fun k => if (2 ^ n + k) &&& W = 2 ^ n + k then f (2 ^ n + k) else 0) (2 ^ n) = 0 := sumN_0 _ (fun t ht => by
        rw [tp_and ht, if_neg q, if_neg (by have : t &&& W ≤ t := Nat.and_le_left; have : 0 < 2 ^ n := Nat.two_pow_pos n; omega)])
      rw [g1, g2, ih f, eb, show n + 1 - bsum W n = (n - bsum W n) + 1 by omega, Nat.pow_succ, Nat.add_zero, Nat.mul_comm (2 ^ (n - bsum W n)) 2, Nat.mul_assoc]
      omega
theorem sub_iff {m W : Nat} (hm : m < 4096) : dif m W = 0 ↔ m &&& W = m := by
  constructor
  · intro h
    apply Nat.eq_of_testBit_eq
    intro i
    have hi : (dif m W).testBit i = false := by rw [h]; exact Nat.zero_testBit i
    rw [dif_b] at hi
    rw [Nat.testBit_and]
    by_cases z : i < 12
    · rw [decide_eq_true z, Bool.xor_true] at hi
      cases h1 : m.testBit i
      · rfl
      · rw [h1] at hi
        cases h2 : W.testBit i
        · rw [h2] at hi; cases hi
        · rfl
    · rw [tb_hi hm (by omega)]; rfl
  · intro h
    apply Nat.eq_of_testBit_eq
    intro i
    rw [dif_b, Nat.zero_testBit]
    by_cases z : i < 12
    · rw [decide_eq_true z, Bool.xor_true]
      have hi : (m &&& W).testBit i = m.testBit i := by rw [h]
      rw [Nat.testBit_and] at hi
      cases h1 : m.testBit i
      · rfl
      · rw [h1, Bool.true_and] at hi
        rw [hi]; rfl
    · rw [tb_hi hm (by omega)]; rfl
theorem cnt_W {W : Nat} (hW : W < 4096) (Q : Nat → Nat) (hQ : ∀ m, m < 4096 → Q m = Q (m &&& W)) : sumN Q 4096 = sumN (fun m => if m &&& W = m then Q m else 0) (W + 1) * 2 ^ (12 - cnt W) := by
  have e1 : sumN Q 4096 = sumN (fun m => Q (m &&& W)) (2 ^ 12) := sumN_cg _ hQ
  have e2 := sumN_split (fun m => if m &&& W = m then Q m else 0) (W + 1) (4096 - (W + 1))
  rw [show W + 1 + (4096 - (W + 1)) = 2 ^ 12 by omega, sumN_0 (4096 - (W + 1)) (fun t ht => if_neg (by have : (W + 1 + t) &&& W ≤ W := Nat.and_le_right; omega)), Nat.add_zero] at e2
  rw [e1, cnt_sum W 12 Q, e2, Nat.mul_comm]
  rfl
theorem sh_s : ∀ n : Nat, n < 32 → ((nI n &&& 31).toBitVec.smod 32).toNat = n := by decide +kernel
theorem sh_n (c : Nat) {e : Nat} (he : e < 32) : nI c <<< (nI e &&& 31) = nI (c * 2 ^ e) := by
  apply Int32.toBitVec_inj.mp
  rw [Int32.toBitVec_shiftLeft]
  show BitVec.ofNat 32 c <<< ((nI e &&& 31).toBitVec.smod 32).toNat = BitVec.ofNat 32 (c * 2 ^ e)
  rw [sh_s e he]
  apply BitVec.eq_of_toNat_eq
  rw [BitVec.toNat_shiftLeft, BitVec.toNat_ofNat, BitVec.toNat_ofNat, Nat.shiftLeft_eq, Nat.mod_mul_mod]
theorem sx_or (a b : Nat) : nI a ||| nI b = nI (a ||| b) := by
  apply Int32.toBitVec_inj.mp
  show BitVec.ofNat 32 a ||| BitVec.ofNat 32 b = BitVec.ofNat 32 (a ||| b)
  apply BitVec.eq_of_getLsbD_eq
  intro i hi
  simp [hi]
/-! what does not hang on the mark -/
def rlM (T T' : Nat → Int32) : Prop := ∃ x, T' = upd T 3 x ∧ (T 4 = 0 ∨ x = T 3)
theorem rlM.f4 {T T' : Nat → Int32} (h : rlM T T') : T' 4 = T 4 := by
  obtain ⟨x, e, -⟩ := h
  rw [e, pu_upd_n (by decide)]
theorem upd_cm (T : Nat → Int32) {i j : Nat} (h : i ≠ j) (v w : Int32) : upd (upd T i v) j w = upd (upd T j w) i v := by
  funext k
  unfold upd
  by_cases q : k = j
  · subst q
    rw [if_pos rfl, if_neg (by omega), if_pos rfl]
  · rw [if_neg q, if_neg q]
theorem rlM.refl (T : Nat → Int32) : rlM T T := ⟨T 3, (upd_at T 3).symm, Or.inr rfl⟩
theorem rlM.live {T T' : Nat → Int32} {up yard : Int32} (h : rlM T T') : rlM (liveT T up yard) (liveT T' up yard) := by
  obtain ⟨x, e, h⟩ := h
  by_cases h4 : T 4 = 0
  · have e' : liveT T' up yard = awaitT T' yard := by unfold liveT; rw [if_pos (by rw [e, pu_upd_n (by decide)]; exact h4)]
    have e0 : liveT T up yard = awaitT T yard := by unfold liveT; rw [if_pos h4]
    rw [e', e0, e]
    unfold awaitT
    have hr : renewsT (upd T 3 x) = renewsT T := rfl
    have h6 : upd T 3 x 6 = T 6 := pu_upd_n (by decide)
    rw [hr, h6]
    by_cases c1 : renewsT T ≤ 0
    · rw [if_pos c1, if_pos c1]
      exact ⟨x, upd_cm T (by decide) _ _, Or.inl (by rw [pu_upd_n (by decide)]; exact h4)⟩
    · rw [if_neg c1, if_neg c1]
      by_cases c2 : mt_min (T 6 + 1) 9999 < renewsT T
      · rw [if_pos c2, if_pos c2]
        exact ⟨x, upd_cm T (by decide) _ _, Or.inl (by rw [pu_upd_n (by decide)]; exact h4)⟩
      · rw [if_neg c2, if_neg c2]
        have : upd (upd (upd (upd (upd (upd T 3 x) 6 (mt_min (T 6 + 1) 9999)) 4 1) 3 yard) 5 0) 6 0 = upd (upd (upd (upd (upd T 6 (mt_min (T 6 + 1) 9999)) 4 1) 3 yard) 5 0) 6 0 := by
          rw [upd_cm T (show 3 ≠ 6 by decide), upd_cm _ (show 3 ≠ 4 by decide), upd_upd]
        rw [this]
        exact rlM.refl _
  · rcases h with h | h
    · exact absurd h h4
    · rw [e, h, upd_at]
      exact rlM.refl _
theorem rlM.alo {a : AW} {T T' : Nat → Int32} (h : rlM T T') : ∀ k, rlM (alo a T k) (alo a T' k) := by
  intro k
  induction k with
  | zero => exact h
  | succ k ih => exact ih.live
/-- a blank one holds -/
theorem blank_alo {a : AW} {y : Nat} {T : Nat → Int32} (hw : wfA a y) (hT : wfT T) (h0 : T 0 = 5) (h4 : ¬ T 4 = 0) : ∀ k, alo a T k 4 = T 4 ∧ alo a T k 0 = 5 := by
  intro k
  induction k with
  | zero => exact ⟨rfl, h0⟩
  | succ k ih =>
    have wk := alo_wf hw hT k
    have n4 : ¬ alo a T k 4 = 0 := by rw [ih.1]; exact h4
    have hb : bearsT (alo a T k) (upA (yrs k a)) = 12 := by unfold bearsT; rw [ih.2]; rfl
    have hp : pc (alo a T k 3 &&& upA (yrs k a)) ≤ 12 := by
      obtain ⟨q, hq, e⟩ := ps_pc (ps_and (y := upA (yrs k a)) wk.2.2.2.2.1)
      rw [e]
      exact nI_le (b := 12) hq (by decide)
    have e : alo a T (k + 1) = fadeT (upd (alo a T k) 5 (mt_min (alo a T k 5 + 1) 9999)) := by
      show liveT (alo a T k) (upA (yrs k a)) (a 0 0) = _
      unfold liveT
      rw [if_neg n4, hb, if_pos hp]
    have ff : ∀ (S : Nat → Int32) (j : Nat), j ≠ 3 → fadeT S j = S j := fun S j hj => by
      unfold fadeT
      split
      · rfl
      · split
        · exact pu_upd_n hj
        · rfl
    rw [e, ff _ 4 (by decide), ff _ 0 (by decide), pu_upd_n (by decide), pu_upd_n (by decide)]
    exact ih
/-- until it breaks, only what is up at some time weighs, if nothing fades -/
def noFade (T : Nat → Int32) (h n : Nat) : Prop := ∀ i, 1 ≤ i → i ≤ n → (fadesT T ≤ 0 ∨ ¬ nI (min (h + i) 9999) - nI (min (h + i) 9999) / fadesT T * fadesT T = 0)
theorem ph_alo {a : AW} {y n h m w : Nat} {T : Nat → Int32} (hy : y ≤ 40000) (hw : wfA a y) (hn : n ≤ 60) (h4 : ¬ T 4 = 0) (hh : h ≤ 9999) (h5 : T 5 = nI h) (hm : m < 4096) (hf : noFade T h n) (hu : ∀ k, k < n → ∃ j, j < 4096 ∧ upA (yrs k a) = nI j ∧ w &&& j = j) : ∀ k, k ≤ n → (alo a (upd T 3 (nI m)) k = upd (upd T 5 (nI (min (h + k) 9999))) 3 (nI m) ∧ alo a (upd T 3 (nI (m &&& w))) k = upd (upd T 5 (nI (min (h + k) 9999))) 3 (nI (m &&& w))) ∨ rlM (alo a (upd T 3 (nI m)) k) (alo a (upd T 3 (nI (m &&& w))) k) := by
  intro k
  induction k with
  | zero =>
    intro _
    left
    have : upd T 5 (nI (min (h + 0) 9999)) = T := by rw [Nat.add_zero, Nat.min_eq_left hh, ← h5, upd_at]
    rw [this]
    exact ⟨rfl, rfl⟩
  | succ k ih =>
    intro hk
    rcases ih (by omega) with ⟨e1, e2⟩ | r
    · obtain ⟨j, hj, eu, hwj⟩ := hu k (by omega)
      have hnext : mt_min (nI (min (h + k) 9999) + 1) 9999 = nI (min (h + (k + 1)) 9999) := by
        rw [nI_1, show (9999 : Int32) = nI 9999 from rfl, pu_min _ 9999 (by omega) (by decide)]
        congr 1
        omega
      have lv : ∀ x : Nat, liveT (upd (upd T 5 (nI (min (h + k) 9999))) 3 (nI x)) (nI j) (a 0 0) = if pc (nI x &&& nI j) ≤ bearsT (upd (upd T 5 (nI (min (h + k) 9999))) 3 (nI x)) (nI j) then upd (upd T 5 (nI (min (h + (k + 1)) 9999))) 3 (nI x) else upd (upd (upd (upd (upd (upd T 5 (nI (min (h + k) 9999))) 3 (nI x)) 4 0) 7 (mt_min (T 7 + 1) 9999)) 5 0) 6 0 := by
        intro x
        unfold liveT
        have g4 : ¬ upd (upd T 5 (nI (min (h + k) 9999))) 3 (nI x) 4 = 0 := by rw [pu_upd_n (by decide), pu_upd_n (by decide)]; exact h4
        have g3 : upd (upd T 5 (nI (min (h + k) 9999))) 3 (nI x) 3 = nI x := pu_upd_s _ _ _
        have g5 : upd (upd T 5 (nI (min (h + k) 9999))) 3 (nI x) 5 = nI (min (h + k) 9999) := by rw [pu_upd_n (by decide), pu_upd_s]
        have g7 : upd (upd T 5 (nI (min (h + k) 9999))) 3 (nI x) 7 = T 7 := by rw [pu_upd_n (by decide), pu_upd_n (by decide)]
        rw [if_neg g4, g3, g5, g7, hnext]
        by_cases q : pc (nI x &&& nI j) ≤ bearsT (upd (upd T 5 (nI (min (h + k) 9999))) 3 (nI x)) (nI j)
        · rw [if_pos q, if_pos q]
          have en : upd (upd (upd T 5 (nI (min (h + k) 9999))) 3 (nI x)) 5 (nI (min (h + (k + 1)) 9999)) = upd (upd T 5 (nI (min (h + (k + 1)) 9999))) 3 (nI x) := by
            rw [upd_cm _ (show 3 ≠ 5 by decide), upd_upd]
          rw [en]
          unfold fadeT
          have ef : fadesT (upd (upd T 5 (nI (min (h + (k + 1)) 9999))) 3 (nI x)) = fadesT T := rfl
          have e5 : upd (upd T 5 (nI (min (h + (k + 1)) 9999))) 3 (nI x) 5 = nI (min (h + (k + 1)) 9999) := by rw [pu_upd_n (by decide), pu_upd_s]
          rw [ef, e5]
          rcases hf (k + 1) (by omega) hk with z | z
          · rw [if_pos z]
          · by_cases z2 : fadesT T ≤ 0
            · rw [if_pos z2]
            · rw [if_neg z2, if_neg z]
        · rw [if_neg q, if_neg q]
      have ea : (m &&& w) &&& j = m &&& j := by rw [Nat.and_assoc, hwj]
      have eb : bearsT (upd (upd T 5 (nI (min (h + k) 9999))) 3 (nI (m &&& w))) (nI j) = bearsT (upd (upd T 5 (nI (min (h + k) 9999))) 3 (nI m)) (nI j) := by
        by_cases z : T 0 = 4
        · rw [bears_d (by rw [pu_upd_n (by decide), pu_upd_n (by decide)]; exact z), bears_d (by rw [pu_upd_n (by decide), pu_upd_n (by decide)]; exact z), pu_upd_s, pu_upd_s, sx_and, sx_and, ea]
        · unfold bearsT
          have k0 : ∀ x, upd (upd T 5 (nI (min (h + k) 9999))) 3 x 0 = T 0 := fun x => by rw [pu_upd_n (by decide), pu_upd_n (by decide)]
          have k5 : ∀ x, upd (upd T 5 (nI (min (h + k) 9999))) 3 x 5 = nI (min (h + k) 9999) := fun x => by rw [pu_upd_n (by decide), pu_upd_s]
          rw [k0, k0, k5, k5, if_neg z, if_neg z]
      have s1 : alo a (upd T 3 (nI m)) (k + 1) = liveT (upd (upd T 5 (nI (min (h + k) 9999))) 3 (nI m)) (nI j) (a 0 0) := by
        show liveT (alo a (upd T 3 (nI m)) k) (upA (yrs k a)) (a 0 0) = _
        rw [e1, eu]
      have s2 : alo a (upd T 3 (nI (m &&& w))) (k + 1) = liveT (upd (upd T 5 (nI (min (h + k) 9999))) 3 (nI (m &&& w))) (nI j) (a 0 0) := by
        show liveT (alo a (upd T 3 (nI (m &&& w))) k) (upA (yrs k a)) (a 0 0) = _
        rw [e2, eu]
      rw [s1, s2, lv m, lv (m &&& w), eb, sx_and, sx_and, ea]
      by_cases q : pc (nI (m &&& j)) ≤ bearsT (upd (upd T 5 (nI (min (h + k) 9999))) 3 (nI m)) (nI j)
      · rw [if_pos q, if_pos q]
        left
        exact ⟨rfl, rfl⟩
      · rw [if_neg q, if_neg q]
        right
        refine ⟨nI (m &&& w), ?_, Or.inl (by rw [pu_upd_n (by decide), pu_upd_n (by decide), pu_upd_n (by decide), pu_upd_s])⟩
        generalize upd T 5 (nI (min (h + k) 9999)) = S
        generalize mt_min (T 7 + 1) 9999 = B
        rw [upd_cm S (show 3 ≠ 4 by decide), upd_cm _ (show 3 ≠ 7 by decide), upd_cm _ (show 3 ≠ 5 by decide), upd_cm _ (show 3 ≠ 6 by decide), upd_cm S (show 3 ≠ 4 by decide), upd_cm _ (show 3 ≠ 7 by decide), upd_cm _ (show 3 ≠ 5 by decide), upd_cm _ (show 3 ≠ 6 by decide), upd_upd]
    · right
      exact r.live
