/-! the class reads an item into a world -/
def CX (b : Nat → Nat) (n : Nat) (σ : mt_St) (p : Nat) : Prop := σ 44 3 = nI (kB b n p) ∧ σ 44 4 = nI (kE b n p) ∧ σ 44 2 = nI (kS b n p) ∧ σ 44 5 = nI (kV b n p)
def sx (σ σ' : mt_St) : Prop := (∀ c, c ≠ 44 → σ' c = σ c) ∧ ∀ k, k < 2 ∨ 5 < k → σ' 44 k = σ 44 k
def frQ (σ σ' : mt_St) : Prop := (∀ c, c < 25 ∨ (36 < c ∧ c ≠ 44) → σ' c = σ c) ∧ ∀ k, k < 2 ∨ 5 < k → σ' 44 k = σ 44 k
theorem sx.rf {σ : mt_St} : sx σ σ := ⟨fun _ _ => rfl, fun _ _ => rfl⟩
theorem frQ.rf {σ : mt_St} : frQ σ σ := ⟨fun _ _ => rfl, fun _ _ => rfl⟩
theorem frQ.tr {σ σ' σ'' : mt_St} (h : frQ σ σ') (h2 : frQ σ' σ'') : frQ σ σ'' := ⟨fun c a => (h2.1 c a).trans (h.1 c a), fun k a => (h2.2 k a).trans (h.2 k a)⟩
theorem sx.frQ {σ σ' : mt_St} (h : sx σ σ') : frQ σ σ' := ⟨fun c a => h.1 c (by omega), h.2⟩
theorem frQ.up {σ : mt_St} {c k : Nat} {v : Int32} (h1 : 25 ≤ c) (h2 : c ≤ 36) : frQ σ (mt_up σ c k v) := ⟨fun c' a => by rw [pu_up, mt_row_n (by omega)], fun k a => by rw [pu_up, mt_row_n (by omega)]⟩
theorem frQ.row {σ : mt_St} {c : Nat} {f : Nat → Int32} (h1 : 25 ≤ c) (h2 : c ≤ 36) : frQ σ (mt_row σ c f) := ⟨fun c' a => by rw [mt_row_n (by omega)], fun k a => by rw [mt_row_n (by omega)]⟩
theorem TX.fr {b : Nat → Nat} {n : Nat} {σ σ' : mt_St} (h : TX b n σ) (q : frQ σ σ') : TX b n σ' := ⟨(q.2 1 (by omega)).trans h.1, fun k hk => by rw [q.1 45 (by omega)]; exact h.2 k hk⟩
theorem CX.up {b : Nat → Nat} {n p : Nat} {σ : mt_St} {c k : Nat} {v : Int32} (h : CX b n σ p) (hc : c ≠ 44) : CX b n (mt_up σ c k v) p := by
  unfold CX; rw [pu_up, mt_row_n (fun z => hc z.symm)]; exact h
theorem CX.row {b : Nat → Nat} {n p : Nat} {σ : mt_St} {c : Nat} {f : Nat → Int32} (h : CX b n σ p) (hc : c ≠ 44) : CX b n (mt_row σ c f) p := by
  unfold CX; rw [mt_row_n (fun z => hc z.symm)]; exact h
theorem SX.sx {a : AW} {σ σ' : mt_St} (hn : nA a ≤ 8) (h : SX a σ 25) (q : sx σ σ') : SX a σ' 25 := h.same hn (fun c p r => q.1 c (by omega))
theorem x_ad {b : Nat → Nat} {n p : Nat} {σ : mt_St} (hn : n ≤ 120) (hb : ∀ k, k < n → b k < 256) (hp : p ≤ n) (hT : TX b n σ) (h : CX b n σ p) : ∃ σ', fX0_advance 5000 σ = some ((), σ') ∧ CX b n σ' (kE b n p) ∧ sx σ σ' := by
  obtain ⟨g, g1, g2, g3, g4, g5, g6⟩ := x_adv (p := kE b n p) hn hb (kE_r hb hp).2.1 hT h.2.1
  exact ⟨_, g1, ⟨by rw [mt_row_s]; exact g2, by rw [mt_row_s]; exact g3, by rw [mt_row_s]; exact g4, by rw [mt_row_s]; exact g5⟩, fun c a => mt_row_n a, fun k a => by rw [mt_row_s]; exact g6 k a⟩
theorem x_pn {b : Nat → Nat} {n p lim : Nat} {L : Int32} {σ : mt_St} (hn : n ≤ 120) (hb : ∀ k, k < n → b k < 256) (hp : p ≤ n) (hT : TX b n σ) (h : CX b n σ p) (hl : lim ≤ 9999) (hL : L = nI lim) : ∃ σ', fX0_passNumber 5000 σ L = some (bN (isNm b n p lim), σ') ∧ CX b n σ' (if isNm b n p lim = true then kE b n p else p) ∧ sx σ σ' := by
  have hV := kV_r hb hp
  have hS := kS_r b n p
  unfold fX0_passNumber bX0_passNumber_16
  rw [h.2.2.1, h.2.2.2, hL]
  by_cases c : kS b n p = 2
  · rw [if_pos (show nI (kS b n p) = 2 by rw [c]; rfl)]
    by_cases c2 : kV b n p ≤ lim
    · have e : isNm b n p lim = true := by unfold isNm; rw [decide_eq_true c, decide_eq_true c2]; rfl
      obtain ⟨σ', g1, g2, g3⟩ := x_ad hn hb hp hT h
      rw [if_pos (nI_le c2 (by omega)), g1, pu_call, e, if_pos rfl]
      exact ⟨σ', rfl, g2, g3⟩
    · have e : isNm b n p lim = false := by unfold isNm; rw [decide_eq_false c2, Bool.and_false]
      rw [if_neg (nI_ge (by omega) (by omega)), e, if_neg (by decide)]
      exact ⟨σ, rfl, h, sx.rf⟩
  · have e : isNm b n p lim = false := by unfold isNm; rw [decide_eq_false c, Bool.false_and]
    rw [if_neg (show ¬ nI (kS b n p) = 2 from fun z => c (nI_inj (i := kS b n p) (t := 2) (by omega) (by omega) z)), e, if_neg (by decide)]
    exact ⟨σ, rfl, h, sx.rf⟩
theorem x_kind {b : Nat → Nat} {n p : Nat} {σ : mt_St} (hn : n ≤ 120) (hb : ∀ k, k < n → b k < 256) (hp : p ≤ n) (hT : TX b n σ) (h : CX b n σ p) : fX0_kindTold 5000 σ = some (rkd b n p 7) := by
  have f : ∀ v, v < 13 → fX0_isWord 5000 σ v = some (bN (isWd b n p v)) := fun v hv => x_isWd hn hb hp hv hT h.1 h.2.1 h.2.2.1
  have f0 := f 0 (by decide); have f1 := f 1 (by decide); have f2 := f 2 (by decide); have f3 := f 3 (by decide); have f4 := f 4 (by decide); have f5 := f 5 (by decide); have f6 := f 6 (by decide)
  unfold fX0_kindTold bX0_kindTold_81
  rcases rkd_c b n p 7 with ⟨w, hw, h1, h2⟩ | ⟨h1, h2⟩
  · have o : ∀ v, v < 7 → w ≠ v → isWd b n p v = false := fun v hv hne => isWd_one (by omega) (by omega) h1 hne
    rw [h2]
    rcases (show w = 0 ∨ w = 1 ∨ w = 2 ∨ w = 3 ∨ w = 4 ∨ w = 5 ∨ w = 6 by omega) with rfl | rfl | rfl | rfl | rfl | rfl | rfl
    · rw [f0, pu_ask, h1, bN_t, if_neg i10']; rfl
    · rw [f0, pu_ask, o 0 (by decide) (by decide), bN_f, if_pos rfl, f1, pu_ask, h1, bN_t, if_neg i10']; rfl
    · rw [f0, pu_ask, o 0 (by decide) (by decide), bN_f, if_pos rfl, f1, pu_ask, o 1 (by decide) (by decide), bN_f, if_pos rfl, f2, pu_ask, h1, bN_t, if_neg i10']; rfl
    · rw [f0, pu_ask, o 0 (by decide) (by decide), bN_f, if_pos rfl, f1, pu_ask, o 1 (by decide) (by decide), bN_f, if_pos rfl, f2, pu_ask, o 2 (by decide) (by decide), bN_f, if_pos rfl, f3, pu_ask, h1, bN_t, if_neg i10']; rfl
    · rw [f0, pu_ask, o 0 (by decide) (by decide), bN_f, if_pos rfl, f1, pu_ask, o 1 (by decide) (by decide), bN_f, if_pos rfl, f2, pu_ask, o 2 (by decide) (by decide), bN_f, if_pos rfl, f3, pu_ask, o 3 (by decide) (by decide), bN_f, if_pos rfl, f4, pu_ask, h1, bN_t, if_neg i10']; rfl
    · rw [f0, pu_ask, o 0 (by decide) (by decide), bN_f, if_pos rfl, f1, pu_ask, o 1 (by decide) (by decide), bN_f, if_pos rfl, f2, pu_ask, o 2 (by decide) (by decide), bN_f, if_pos rfl, f3, pu_ask, o 3 (by decide) (by decide), bN_f, if_pos rfl, f4, pu_ask, o 4 (by decide) (by decide), bN_f, if_pos rfl, f5, pu_ask, h1, bN_t, if_neg i10']; rfl
    · rw [f0, pu_ask, o 0 (by decide) (by decide), bN_f, if_pos rfl, f1, pu_ask, o 1 (by decide) (by decide), bN_f, if_pos rfl, f2, pu_ask, o 2 (by decide) (by decide), bN_f, if_pos rfl, f3, pu_ask, o 3 (by decide) (by decide), bN_f, if_pos rfl, f4, pu_ask, o 4 (by decide) (by decide), bN_f, if_pos rfl, f5, pu_ask, o 5 (by decide) (by decide), bN_f, if_pos rfl, f6, pu_ask, h1, bN_t, if_neg i10']; rfl
  · rw [h2, f0, pu_ask, h1 0 (by decide), bN_f, if_pos rfl, f1, pu_ask, h1 1 (by decide), bN_f, if_pos rfl, f2, pu_ask, h1 2 (by decide), bN_f, if_pos rfl, f3, pu_ask, h1 3 (by decide), bN_f, if_pos rfl, f4, pu_ask, h1 4 (by decide), bN_f, if_pos rfl, f5, pu_ask, h1 5 (by decide), bN_f, if_pos rfl, f6, pu_ask, h1 6 (by decide), bN_f, if_pos rfl]
/-! worlds that items make -/
theorem SX.sign {a : AW} {σ : mt_St} {w : Nat} {T f : Nat → Int32} (h : SX a σ w) (hn8 : nA a < 8) (hf : tE f T) : SX (signA a T) (mt_up (mt_row σ (w + 4 + nA a) f) w 7 (nI (nA a + 1))) w := by
  obtain ⟨⟨e0, e1, e3, e4, e5, e7⟩, hl, hs, ht⟩ := h
  obtain ⟨s1, s2, s3, s4, s5, s6⟩ := signA_f (T := T) hn8
  have x1 : mt_up (mt_row σ (w + 4 + nA a) f) w 7 (nI (nA a + 1)) w = upd (σ w) 7 (nI (nA a + 1)) := by rw [pu_up, mt_row_s, mt_row_n (by omega)]
  have xc : ∀ c, c ≠ w → c ≠ w + 4 + nA a → mt_up (mt_row σ (w + 4 + nA a) f) w 7 (nI (nA a + 1)) c = σ c := fun c p q => by rw [pu_up, mt_row_n p, mt_row_n q]
  unfold SX
  rw [s1, s2, s3, s4, x1]
  refine ⟨⟨e0, e1, e3, e4, e5, rfl⟩, fun i hi => ?_, fun i hi => ?_, fun t htn => ?_⟩
  · rw [xc (w + 1) (by omega) (by omega)]; exact hl i hi
  · rw [xc (w + 3) (by omega) (by omega)]; exact hs i hi
  · by_cases q : t = nA a
    · rw [q, s5, pu_up, mt_row_n (by omega), mt_row_s]; exact hf
    · rw [s6 t (by omega), xc (w + 4 + t) (by omega) (by omega)]; exact ht t (by omega)
theorem SX.signU {a : AW} {σ : mt_St} {w k : Nat} {v : Int32} {T : Nat → Int32} (h : SX (signA a T) σ w) (hn8 : nA a < 8) : SX (signA a (upd T k v)) (mt_up σ (w + 4 + nA a) k v) w := by
  obtain ⟨s1, s2, s3, s4, s5, s6⟩ := signA_f (T := T) hn8
  have ht := h.2.2.2 (nA a) (by rw [s1]; omega)
  rw [s5] at ht
  have := h.treat (t := nA a) (T := upd T k v) (f := upd (σ (w + 4 + nA a)) k v) (by rw [s1]; omega) (tE_upd ht k v)
  have e : mt_row (signA a T) (4 + nA a) (upd T k v) = signA a (upd T k v) := pu_row_row _ _ _ _
  rw [e] at this
  exact this
theorem SX.signE {a : AW} {σ : mt_St} {w : Nat} {T T' : Nat → Int32} (h : SX (signA a T) σ w) (hn8 : nA a < 8) (hE : tE T T') : SX (signA a T') σ w := by
  obtain ⟨s1, s2, s3, s4, s5, s6⟩ := signA_f (T := T) hn8
  obtain ⟨r1, r2, r3, r4, r5, r6⟩ := signA_f (T := T') hn8
  obtain ⟨e, hl, hs, ht⟩ := h
  rw [s2] at e
  rw [s3] at hl
  rw [s4] at hs
  rw [s1] at ht
  unfold SX
  rw [r1, r2, r3, r4]
  refine ⟨e, hl, hs, fun t htn => ?_⟩
  have := ht t htn
  by_cases q : t = nA a
  · subst q
    rw [s5] at this
    rw [r5]
    exact fun k hk => (this k hk).trans (hE k hk)
  · rw [s6 t (by omega)] at this
    rw [r6 t (by omega)]
    exact this
theorem wf_sign {a : AW} {y : Nat} {T : Nat → Int32} (h : wfA a y) (hn8 : nA a < 8) (hT : wfT T) : wfA (signA a T) y := by
  obtain ⟨w1, w2, w3, w4, w5, w6, w7, w8⟩ := h
  obtain ⟨s1, s2, s3, s4, s5, s6⟩ := signA_f (T := T) hn8
  unfold wfA
  rw [s1, s2, s3, s4]
  refine ⟨⟨nA a + 1, by omega, rfl⟩, w2, w3, w4, w5, w6, fun i hi => ?_, fun t htn => ?_⟩
  · rcases w7 i hi with e | ⟨t, ht, e⟩
    · exact Or.inl e
    · exact Or.inr ⟨t, by omega, e⟩
  · by_cases q : t = nA a
    · rw [q, s5]; exact hT
    · rw [s6 t (by omega)]; exact w8 t (by omega)
theorem SX.num {a : AW} {σ : mt_St} {w k : Nat} {v : Int32} (h : SX a σ w) (hk : k = 0 ∨ k = 1) : SX (mt_row a 0 (upd (a 0) k v)) (mt_up σ w k v) w := by
  obtain ⟨⟨e0, e1, e3, e4, e5, e7⟩, hl, hs, ht⟩ := h
  have hn : nA (mt_row a 0 (upd (a 0) k v)) = nA a := by unfold nA; rw [mt_row_s, pu_upd_n (by omega)]
  unfold SX
  rw [hn, mt_row_s, mt_row_n (show 1 ≠ 0 by decide), mt_row_n (show 3 ≠ 0 by decide), pu_up, mt_row_s, mt_row_n (show w + 1 ≠ w by omega), mt_row_n (show w + 3 ≠ w by omega)]
  refine ⟨?_, hl, hs, fun t htn => by rw [mt_row_n (by omega), mt_row_n (by omega)]; exact ht t htn⟩
  rcases hk with rfl | rfl
  · exact ⟨rfl, e1, e3, e4, e5, e7⟩
  · exact ⟨e0, rfl, e3, e4, e5, e7⟩
theorem wf_num {a : AW} {y k : Nat} {v : Int32} (h : wfA a y) (hk : k = 0 ∨ k = 1) (hv : ps_S v) : wfA (mt_row a 0 (upd (a 0) k v)) y := by
  obtain ⟨w1, w2, w3, w4, w5, w6, w7, w8⟩ := h
  have hn : nA (mt_row a 0 (upd (a 0) k v)) = nA a := by unfold nA; rw [mt_row_s, pu_upd_n (by omega)]
  unfold wfA
  rw [hn, mt_row_s, mt_row_n (show 1 ≠ 0 by decide), mt_row_n (show 3 ≠ 0 by decide)]
  refine ⟨?_, ?_, ?_, ?_, ?_, w6, w7, fun t htn => by rw [mt_row_n (by omega)]; exact w8 t htn⟩
  · rw [pu_upd_n (by omega)]; exact w1
  · rcases hk with rfl | rfl
    · rw [pu_upd_s]; exact hv
    · rw [pu_upd_n (by decide)]; exact w2
  · rcases hk with rfl | rfl
    · rw [pu_upd_n (by decide)]; exact w3
    · rw [pu_upd_s]; exact hv
  · rw [pu_upd_n (by omega)]; exact w4
  · rw [pu_upd_n (by omega)]; exact w5
theorem SX.evt {a : AW} {σ : mt_St} {w i : Nat} {v : Int32} (h : SX a σ w) : SX (mt_row a 1 (upd (a 1) i v)) (mt_up σ (w + 1) i v) w := by
  obtain ⟨e, hl, hs, ht⟩ := h
  have hn : nA (mt_row a 1 (upd (a 1) i v)) = nA a := by unfold nA; rw [mt_row_n (by decide)]
  unfold SX
  rw [hn, mt_row_n (show 0 ≠ 1 by decide), mt_row_s, mt_row_n (show 3 ≠ 1 by decide), pu_up, mt_row_n (show w ≠ w + 1 by omega), mt_row_s, mt_row_n (show w + 3 ≠ w + 1 by omega)]
  refine ⟨e, fun k hk => ?_, hs, fun t htn => by rw [mt_row_n (by omega), mt_row_n (by omega)]; exact ht t htn⟩
  by_cases q : k = i
  · subst q; rw [pu_upd_s, pu_upd_s]
  · rw [pu_upd_n q, pu_upd_n q]; exact hl k hk
theorem wf_evt {a : AW} {y i e : Nat} (h : wfA a y) (he : e ≤ 12) : wfA (mt_row a 1 (upd (a 1) i (nI e))) y := by
  obtain ⟨w1, w2, w3, w4, w5, w6, w7, w8⟩ := h
  have hn : nA (mt_row a 1 (upd (a 1) i (nI e))) = nA a := by unfold nA; rw [mt_row_n (by decide)]
  unfold wfA
  rw [hn, mt_row_n (show 0 ≠ 1 by decide), mt_row_s, mt_row_n (show 3 ≠ 1 by decide)]
  refine ⟨w1, w2, w3, w4, w5, fun k hk => ?_, w7, fun t htn => by rw [mt_row_n (by omega)]; exact w8 t htn⟩
  by_cases q : k = i
  · subst q; rw [pu_upd_s]; exact ⟨e, he, rfl⟩
  · rw [pu_upd_n q]; exact w6 k hk
def fT (k p q m f h : Int32) : Nat → Int32 := fun i => if i = 0 then k else if i = 1 then p else if i = 2 then q else if i = 3 then m else if i = 4 then f else if i = 5 then h else 0
def apI (a : AW) (t : Nat → Int32) : AW := if t 0 = 10 then mt_row a 0 (upd (a 0) 0 (t 1)) else if t 0 = 11 then mt_row a 0 (upd (a 0) 1 (t 1)) else if t 0 = 12 then mt_row a 1 (upd (a 1) (Int32.toNatClampNeg (t 1)) (t 2)) else signA a (fT (t 0) (t 1) (t 2) (if t 3 < 0 then a 0 0 else t 3) (t 5) (t 4))
theorem x_sign {σ : mt_St} {a : AW} {k p q : Int32} (h : SX a σ 25) (h7 : a 0 7 = nI (nA a)) (hn8 : nA a < 8) : ∃ σ', fX4_sign 5000 σ 25 k p q = some ((), σ') ∧ SX (signA a (newT k p q (a 0 0))) σ' 25 ∧ (∀ c, c < 25 ∨ 36 < c → σ' c = σ c) := by
  have e7 : σ 25 7 = nI (nA a) := h.1.2.2.2.2.2.trans h7
  obtain ⟨f, f1, f2⟩ := x_begin (fu := 5000) (c := 25 + 4 + nA a) (σ := σ) (k := k) (p := p) (q := q) (yd := σ 25 0)
  rw [h.1.1] at f2
  refine ⟨mt_up (mt_row σ (25 + 4 + nA a) f) 25 7 (nI (nA a + 1)), ?_, h.sign hn8 f2, fun c hc => by rw [pu_up, mt_row_n (by omega), mt_row_n (by omega)]⟩
  unfold fX4_sign bX4_sign_38
  rw [e7, if_neg (show ¬ (8 : Int32) ≤ nI (nA a) from nI_ge (b := 8) hn8 (by decide)), pu_chkP (pu_in hn8 (by decide)), nI_clamp (by omega), show 25 + 2 + 2 + nA a = 25 + 4 + nA a by omega, f1, pu_call, pu_bnd, mt_row_n (show 25 ≠ 25 + 4 + nA a by omega), e7, nI_1]
