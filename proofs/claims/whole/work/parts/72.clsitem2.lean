/-! the class reads a treaty, an item -/
theorem x_powers {b : Nat → Nat} {n p y w : Nat} {a : AW} {σ : mt_St} (hn : n ≤ 120) (hb : ∀ k, k < n → b k < 256) (hp : p ≤ n) (hT : TX b n σ) (hC : CX b n σ p) (hw : wfA a y) (h : SX a σ 25) : ∃ σ', fX0_readPowers 5000 σ 25 (nI w) = some (bN (!(q3 b n (nA a) p).1), σ') ∧ CX b n σ' (q3 b n (nA a) p).2 ∧ frQ σ σ' ∧ ((q3 b n (nA a) p).1 = false → nA a < 8 ∧ SX (signA a (newT (nI w) (nI (kV b n (q1 b n (nA a) p).2)) (nI (kV b n (q2 b n (nA a) p).2)) (a 0 0))) σ' 25) := by
  obtain ⟨hn8, h7⟩ := hw.n
  have e7 : σ 25 7 = nI (nA a) := h.1.2.2.2.2.2.trans h7
  unfold fX0_readPowers bX0_readPowers_50
  rw [e7]
  by_cases z : nA a < 8
  · have e1 : q1 b n (nA a) p = (false, kE b n p) := by unfold q1; rw [decide_eq_true z]; exact mu_y rfl
    have l1 := (kE_r hb hp).2.1
    obtain ⟨σ1, a1, a2, a3⟩ := x_ad hn hb hp hT hC
    have T1 := hT.fr a3.frQ
    obtain ⟨σ2, b1, b2, b3⟩ := x_pn (lim := 5) (L := 5) hn hb l1 T1 a2 (by omega) rfl
    have T2 := T1.fr b3.frQ
    rw [if_pos (show nI (nA a) < 8 from nI_lt (b := 8) z (by decide)), a1, pu_call, b1, pu_call]
    cases n1 : isNm b n (kE b n p) 5
    · have e2 : q2 b n (nA a) p = (true, kE b n p) := by unfold q2 nu; rw [e1, n1]; exact mu_f rfl
      have e3 : q3 b n (nA a) p = (true, kE b n p) := by unfold q3 ot; rw [e2]; exact mu_t rfl
      rw [n1, if_neg (show ¬ false = true by decide)] at b2
      rw [bN_f, if_pos rfl, e3]
      exact ⟨σ2, rfl, b2, a3.frQ.tr b3.frQ, fun z => by cases z⟩
    · have e2 : q2 b n (nA a) p = (false, kE b n (kE b n p)) := by unfold q2 nu; rw [e1, n1]; exact mu_y rfl
      rw [n1, if_pos rfl] at b2
      have l2 := (kE_r hb l1).2.1
      have v1 := (isNm_r n1).2
      have v2 := kV_r hb l2
      rw [bN_t, if_neg i10', b2.2.2.2, a2.2.2.2]
      by_cases c : kV b n (kE b n (kE b n p)) = kV b n (kE b n p)
      · have e3 : q3 b n (nA a) p = (true, kE b n (kE b n p)) := by
          unfold q3 ot
          rw [e2, e1, show (isNm b n (false, kE b n (kE b n p)).2 5 && !decide (kV b n (false, kE b n (kE b n p)).2 = kV b n (false, kE b n p).2)) = false from by rw [decide_eq_true c]; exact Bool.and_false _]
          exact mu_f rfl
        rw [if_pos (by rw [c]), e3]
        exact ⟨σ2, rfl, b2, a3.frQ.tr b3.frQ, fun z => by cases z⟩
      · obtain ⟨σ3, c1, c2, c3⟩ := x_pn (lim := 5) (L := 5) hn hb l2 T2 b2 (by omega) rfl
        rw [if_neg (fun y => c (nI_inj (by omega) (by omega) y)), c1, pu_call]
        have F : frQ σ σ3 := (a3.frQ.tr b3.frQ).tr c3.frQ
        cases n2 : isNm b n (kE b n (kE b n p)) 5
        · have e3 : q3 b n (nA a) p = (true, kE b n (kE b n p)) := by
            unfold q3 ot
            rw [e2, show (isNm b n (false, kE b n (kE b n p)).2 5 && !decide (kV b n (false, kE b n (kE b n p)).2 = kV b n (q1 b n (nA a) p).2)) = false from by rw [show isNm b n (false, kE b n (kE b n p)).2 5 = false from n2]; rfl]
            exact mu_f rfl
          rw [n2, if_neg (show ¬ false = true by decide)] at c2
          rw [bN_f, if_pos rfl, e3]
          exact ⟨σ3, rfl, c2, F, fun z => by cases z⟩
        · have e3 : q3 b n (nA a) p = (false, kE b n (kE b n (kE b n p))) := by
            unfold q3 ot
            rw [e2, e1, show (isNm b n (false, kE b n (kE b n p)).2 5 && !decide (kV b n (false, kE b n (kE b n p)).2 = kV b n (false, kE b n p).2)) = true from by rw [show isNm b n (false, kE b n (kE b n p)).2 5 = true from n2, decide_eq_false c]; rfl]
            exact mu_y rfl
          rw [n2, if_pos rfl] at c2
          have s3 : SX a σ3 25 := h.same hn8 (fun c p q => by rw [c3.1 c (by omega), b3.1 c (by omega), a3.1 c (by omega)])
          obtain ⟨σ4, d1, d2, d3⟩ := x_sign (k := nI w) (p := nI (kV b n (kE b n p))) (q := nI (kV b n (kE b n (kE b n p)))) s3 h7 z
          rw [bN_t, if_neg i10', d1, pu_call, e3, e2, e1]
          refine ⟨σ4, rfl, ?_, F.tr ⟨fun c hc => d3 c (by omega), fun k hk => by rw [d3 44 (by omega)]⟩, fun _ => ⟨z, d2⟩⟩
          unfold CX
          rw [d3 44 (by omega)]
          exact c2
  · have e1 : q1 b n (nA a) p = (true, p) := by unfold q1; rw [decide_eq_false z]; exact mu_f rfl
    have e2 : q2 b n (nA a) p = (true, p) := by unfold q2 nu; rw [e1]; exact mu_t rfl
    have e3 : q3 b n (nA a) p = (true, p) := by unfold q3 ot; rw [e2]; exact mu_t rfl
    rw [if_neg (show ¬ nI (nA a) < 8 from nI_nlt (b := 8) (by omega) (by omega)), e3]
    exact ⟨σ, rfl, hC, frQ.rf, fun z => by cases z⟩
theorem x_opt {b : Nat → Nat} {n y w k lim : Nat} {L : Int32} {s : Bool × Nat} {a : AW} {T : Nat → Int32} {σ : mt_St} (K : mt_St → Option (Int32 × mt_St)) (hn : n ≤ 120) (hb : ∀ k, k < n → b k < 256) (hp : s.2 ≤ n) (hT : TX b n σ) (hC : CX b n σ s.2) (hs : s.1 = false) (hw13 : w < 13) (hl : lim ≤ 9999) (hL : L = nI lim) (hn8 : nA a < 8) (h : SX (signA a T) σ 25) : ∃ σ', frQ σ σ' ∧ CX b n σ' (tm b n s w lim).2 ∧ ((tm b n s w lim).1 = true → (mt_ask (fX0_isWord 5000 σ w) fun r3 => if r3 = 0 then K σ else mt_call (fX0_advance 5000 σ) fun _ s5 => mt_bnd (mt_up s5 (25 + 4 + nA a) k (s5 44 5)) fun s6 => mt_call (fX0_passNumber 5000 s6 L) fun r7 s8 => if r7 = 0 then some (0, s8) else K s8) = some (0, σ')) ∧ ((tm b n s w lim).1 = false → (mt_ask (fX0_isWord 5000 σ w) fun r3 => if r3 = 0 then K σ else mt_call (fX0_advance 5000 σ) fun _ s5 => mt_bnd (mt_up s5 (25 + 4 + nA a) k (s5 44 5)) fun s6 => mt_call (fX0_passNumber 5000 s6 L) fun r7 s8 => if r7 = 0 then some (0, s8) else K s8) = K σ' ∧ SX (signA a (if tkw b n s w = true then upd T k (nI (kV b n (aft b n s w).2)) else T)) σ' 25) := by
  have hs8 : nA (signA a T) ≤ 8 := by rw [(signA_f (T := T) hn8).1]; omega
  have tw : tkw b n s w = isWd b n s.2 w := by unfold tkw; rw [hs]; rfl
  rw [x_isWd hn hb hp hw13 hT hC.1 hC.2.1 hC.2.2.1, pu_ask]
  cases q : isWd b n s.2 w
  · have et : tm b n s w lim = s := by unfold tm; rw [tw, q, if_neg (by decide)]
    rw [et, tw, q, bN_f, if_pos rfl, if_neg (show ¬ false = true by decide)]
    exact ⟨σ, frQ.rf, hC, fun z => absurd (hs.symm.trans z) (by decide), fun _ => ⟨rfl, h⟩⟩
  · have ea : aft b n s w = (false, kE b n s.2) := by unfold aft; rw [tw, q, if_pos rfl]
    have l1 := (kE_r hb hp).2.1
    obtain ⟨σ1, a1, a2, a3⟩ := x_ad hn hb hp hT hC
    have T1 := hT.fr a3.frQ
    have F1 : frQ σ1 (mt_up σ1 (25 + 4 + nA a) k (nI (kV b n (kE b n s.2)))) := frQ.up (by omega) (by omega)
    have C1 := a2.up (c := 25 + 4 + nA a) (k := k) (v := nI (kV b n (kE b n s.2))) (by omega)
    have S1 : SX (signA a (upd T k (nI (kV b n (kE b n s.2))))) (mt_up σ1 (25 + 4 + nA a) k (nI (kV b n (kE b n s.2)))) 25 := (h.sx hs8 a3).signU hn8
    obtain ⟨σ2, b1, b2, b3⟩ := x_pn (lim := lim) (L := L) hn hb l1 (T1.fr F1) C1 hl hL
    have F := (a3.frQ.tr F1).tr b3.frQ
    rw [bN_t, if_neg i10', a1, pu_call, pu_bnd, a2.2.2.2, b1, pu_call, tw, q, if_pos rfl, ea]
    cases n1 : isNm b n (kE b n s.2) lim
    · have et : tm b n s w lim = (true, kE b n s.2) := by unfold tm nu; rw [tw, q, if_pos rfl, ea, show isNm b n (false, kE b n s.2).2 lim = false from n1]; exact mu_f rfl
      rw [n1, if_neg (show ¬ false = true by decide)] at b2
      rw [bN_f, if_pos rfl, et]
      exact ⟨σ2, F, b2, fun _ => rfl, fun z => by cases z⟩
    · have et : tm b n s w lim = (false, kE b n (kE b n s.2)) := by unfold tm nu; rw [tw, q, if_pos rfl, ea, show isNm b n (false, kE b n s.2).2 lim = true from n1]; exact mu_y rfl
      rw [n1, if_pos rfl] at b2
      rw [bN_t, if_neg i10', et]
      have hu8 : nA (signA a (upd T k (nI (kV b n (kE b n s.2))))) ≤ 8 := by rw [(signA_f (T := upd T k (nI (kV b n (kE b n s.2)))) hn8).1]; omega
      exact ⟨σ2, F, b2, fun z => absurd (show false = true from z) (by decide), fun _ => ⟨rfl, S1.sx hu8 b3⟩⟩
theorem x_t94 {b : Nat → Nat} {n : Nat} {s : Bool × Nat} {a : AW} {T : Nat → Int32} {σ : mt_St} (hn : n ≤ 120) (hb : ∀ k, k < n → b k < 256) (hp : s.2 ≤ n) (hT : TX b n σ) (hC : CX b n σ s.2) (hs : s.1 = false) (hn8 : nA a < 8) (h : SX (signA a T) σ 25) : ∃ σ', bX0_readTerms_94 5000 25 σ (25 + 4 + nA a) = some (1, σ') ∧ frQ σ σ' ∧ CX b n σ' (aft b n s 9).2 ∧ (aft b n s 9).1 = false ∧ SX (signA a (if tkw b n s 9 = true then upd T 4 0 else T)) σ' 25 := by
  have hs8 : nA (signA a T) ≤ 8 := by rw [(signA_f (T := T) hn8).1]; omega
  have tw : tkw b n s 9 = isWd b n s.2 9 := by unfold tkw; rw [hs]; rfl
  unfold bX0_readTerms_94 bX0_readTerms_112
  rw [x_isWd hn hb hp (by decide) hT hC.1 hC.2.1 hC.2.2.1, pu_ask]
  cases q : isWd b n s.2 9
  · have ea : aft b n s 9 = s := by unfold aft; rw [tw, q, if_neg (by decide)]
    rw [bN_f, if_pos rfl, ea, tw, q, if_neg (show ¬ false = true by decide)]
    exact ⟨σ, rfl, frQ.rf, hC, hs, h⟩
  · have ea : aft b n s 9 = (false, kE b n s.2) := by unfold aft; rw [tw, q, if_pos rfl]
    obtain ⟨σ1, a1, a2, a3⟩ := x_ad hn hb hp hT hC
    rw [bN_t, if_neg i10', a1, pu_call, pu_bnd, ea, tw, q, if_pos rfl]
    exact ⟨_, rfl, a3.frQ.tr (frQ.up (by omega) (by omega)), a2.up (by omega), rfl, (h.sx hs8 a3).signU hn8⟩
theorem x_terms {b : Nat → Nat} {n c p : Nat} {a : AW} {w f1 f2 : Int32} {σ : mt_St} (hn : n ≤ 120) (hb : ∀ k, k < n → b k < 256) (hp : p ≤ n) (hT : TX b n σ) (hC : CX b n σ (q3 b n c p).2) (hs : (q3 b n c p).1 = false) (hn8 : nA a < 8) (h : SX (signA a (newT w f1 f2 (a 0 0))) σ 25) : ∃ σ', fX0_readTerms 5000 σ 25 = some (bN (!(q6 b n c p).1), σ') ∧ CX b n σ' (q6 b n c p).2 ∧ frQ σ σ' ∧ ((q6 b n c p).1 = false → SX (signA a (fT w f1 f2 (if itM b n c p < 0 then a 0 0 else itM b n c p) (itF b n c p) (itH b n c p))) σ' 25) := by
  have l1 : (q1 b n c p).2 ≤ n := (mu_le hb hp).1
  have l2 : (q2 b n c p).2 ≤ n := (mu_le hb l1).1
  have l3 : (q3 b n c p).2 ≤ n := (mu_le hb l2).1
  have l4 : (q4 b n c p).2 ≤ n := (tm_le hb l3).1
  have l5 : (q5 b n c p).2 ≤ n := (tm_le hb l4).1
  have e7 : σ 25 7 = nI (nA a + 1) := by
    have := h.1.2.2.2.2.2
    rw [(signA_f (T := newT w f1 f2 (a 0 0)) hn8).2.1, pu_upd_s] at this
    exact this
  have hd : fX0_readTerms 5000 σ 25 = (mt_ask (fX0_isWord 5000 σ 7) fun r3 => if r3 = 0 then bX0_readTerms_61 5000 25 σ (25 + 4 + nA a) else mt_call (fX0_advance 5000 σ) fun _ s5 => mt_bnd (mt_up s5 (25 + 4 + nA a) 3 (s5 44 5)) fun s6 => mt_call (fX0_passNumber 5000 s6 4095) fun r7 s8 => if r7 = 0 then some (0, s8) else bX0_readTerms_61 5000 25 s8 (25 + 4 + nA a)) := by
    unfold fX0_readTerms
    rw [e7, nI_pred, x_win, pu_ask, show okR (nI (nA a)) 7 = true from okR_of (m := 7) (by omega) (by decide), bN_t, if_neg i10', pu_chkP (pu_in hn8 (by decide)), nI_clamp (by omega), show 25 + 2 + 2 + nA a = 25 + 4 + nA a by omega]
  obtain ⟨σ1, a1, a2, a3, a4⟩ := x_opt (y := 0) (w := 7) (k := 3) (lim := 4095) (L := 4095) (s := q3 b n c p) (fun s => bX0_readTerms_61 5000 25 s (25 + 4 + nA a)) hn hb l3 hT hC hs (by decide) (by decide) rfl hn8 h
  rw [hd]
  cases z4 : (tm b n (q3 b n c p) 7 4095).1
  · obtain ⟨g1, g2⟩ := a4 z4
    have z4' : (q4 b n c p).1 = false := z4
    have T1 := hT.fr a1
    obtain ⟨σ2, b1, b2, b3, b4⟩ := x_opt (y := 0) (w := 8) (k := 5) (lim := 9999) (L := 9999) (s := q4 b n c p) (fun s => bX0_readTerms_94 5000 25 s (25 + 4 + nA a)) hn hb l4 T1 a2 z4' (by decide) (by decide) rfl hn8 g2
    have g1' : (mt_ask (fX0_isWord 5000 σ 7) fun r3 => if r3 = 0 then bX0_readTerms_61 5000 25 σ (25 + 4 + nA a) else mt_call (fX0_advance 5000 σ) fun _ s5 => mt_bnd (mt_up s5 (25 + 4 + nA a) 3 (s5 44 5)) fun s6 => mt_call (fX0_passNumber 5000 s6 4095) fun r7 s8 => if r7 = 0 then some (0, s8) else bX0_readTerms_61 5000 25 s8 (25 + 4 + nA a)) = bX0_readTerms_61 5000 25 σ1 (25 + 4 + nA a) := g1
    rw [g1']
    cases z5 : (tm b n (q4 b n c p) 8 9999).1
    · obtain ⟨h1, h2⟩ := b4 z5
      have z5' : (q5 b n c p).1 = false := z5
      obtain ⟨σ3, c1, c2, c3, c4, c5⟩ := x_t94 (s := q5 b n c p) hn hb l5 (T1.fr b1) b2 z5' hn8 h2
      have e6 : (q6 b n c p).1 = false := c4
      refine ⟨σ3, ?_, c3, (a1.tr b1).tr c2, fun _ => c5.signE hn8 ?_⟩
      · rw [e6]
        have : bX0_readTerms_61 5000 25 σ1 (25 + 4 + nA a) = bX0_readTerms_94 5000 25 σ2 (25 + 4 + nA a) := by
          unfold bX0_readTerms_61
          exact h1
        rw [this, c1]
        rfl
      · have kv : ∀ q, q ≤ n → ¬ nI (kV b n q) < 0 := fun q hq => nI_pos (by have := kV_r hb hq; omega)
        have k7 := kv (aft b n (q3 b n c p) 7).2 (aft_le hb l3).1
        unfold itM itH itF
        cases t7 : tkw b n (q3 b n c p) 7 <;> cases t8 : tkw b n (q4 b n c p) 8 <;> cases t9 : tkw b n (q5 b n c p) 9
        · exact tE_cases rfl rfl rfl rfl rfl rfl rfl rfl
        · exact tE_cases rfl rfl rfl rfl rfl rfl rfl rfl
        · exact tE_cases rfl rfl rfl rfl rfl rfl rfl rfl
        · exact tE_cases rfl rfl rfl rfl rfl rfl rfl rfl
        · refine tE_cases rfl rfl rfl ?_ rfl rfl rfl rfl
          show nI (kV b n (aft b n (q3 b n c p) 7).2) = if nI (kV b n (aft b n (q3 b n c p) 7).2) < 0 then a 0 0 else nI (kV b n (aft b n (q3 b n c p) 7).2)
          rw [if_neg k7]
        · refine tE_cases rfl rfl rfl ?_ rfl rfl rfl rfl
          show nI (kV b n (aft b n (q3 b n c p) 7).2) = if nI (kV b n (aft b n (q3 b n c p) 7).2) < 0 then a 0 0 else nI (kV b n (aft b n (q3 b n c p) 7).2)
          rw [if_neg k7]
        · refine tE_cases rfl rfl rfl ?_ rfl rfl rfl rfl
          show nI (kV b n (aft b n (q3 b n c p) 7).2) = if nI (kV b n (aft b n (q3 b n c p) 7).2) < 0 then a 0 0 else nI (kV b n (aft b n (q3 b n c p) 7).2)
          rw [if_neg k7]
        · refine tE_cases rfl rfl rfl ?_ rfl rfl rfl rfl
          show nI (kV b n (aft b n (q3 b n c p) 7).2) = if nI (kV b n (aft b n (q3 b n c p) 7).2) < 0 then a 0 0 else nI (kV b n (aft b n (q3 b n c p) 7).2)
          rw [if_neg k7]
    · have z5' : (q5 b n c p).1 = true := z5
      have e6 : q6 b n c p = q5 b n c p := by
        unfold q6 aft
        rw [if_neg]
        intro z
        have := (tkw_ok z).1
        rw [z5'] at this
        cases this
      have h1 := b3 z5
      have : bX0_readTerms_61 5000 25 σ1 (25 + 4 + nA a) = some (0, σ2) := by
        unfold bX0_readTerms_61
        exact h1
      rw [this, e6, z5']
      exact ⟨σ2, rfl, b2, a1.tr b1, fun z => by cases z⟩
  · have z4' : (q4 b n c p).1 = true := z4
    have e5 : q5 b n c p = q4 b n c p := by
      unfold q5 tm
      rw [if_neg]
      intro z
      have := (tkw_ok z).1
      rw [z4'] at this
      cases this
    have e6 : q6 b n c p = q4 b n c p := by
      unfold q6 aft
      rw [e5, if_neg]
      intro z
      have := (tkw_ok z).1
      rw [z4'] at this
      cases this
    have h1 := a3 z4
    rw [e6, z4']
    exact ⟨σ1, h1, a2, a1, fun z => by cases z⟩
theorem q6_in {b : Nat → Nat} {n c p : Nat} (h : (q6 b n c p).1 = false) : c < 8 ∧ kV b n (q1 b n c p).2 ≤ 5 ∧ kV b n (q2 b n c p).2 ≤ 5 ∧ kV b n (q2 b n c p).2 ≠ kV b n (q1 b n c p).2 ∧ (q3 b n c p).1 = false ∧ (tkw b n (q3 b n c p) 7 = true → kV b n (aft b n (q3 b n c p) 7).2 ≤ 4095) ∧ (tkw b n (q4 b n c p) 8 = true → kV b n (aft b n (q4 b n c p) 8).2 ≤ 9999) := by
  have z5 : (q5 b n c p).1 = false := aft_ok h
  obtain ⟨z4, y5⟩ := tm_ok z5
  obtain ⟨z3, y4⟩ := tm_ok z4
  obtain ⟨z2, y3⟩ := mu_ok z3
  obtain ⟨z1, y2⟩ := mu_ok z2
  have y1 := (mu_ok z1).2
  rw [Bool.and_eq_true] at y3
  exact ⟨of_decide_eq_true y1, (isNm_r y2).2, (isNm_r y3.1).2, by simpa using y3.2, z3, fun z => (isNm_r (y4 z)).2, fun z => (isNm_r (y5 z)).2⟩
theorem fT_wf {b : Nat → Nat} {n c p w y : Nat} {a : AW} (hw : wfA a y) (hk : w ≤ 6) (h : (q6 b n c p).1 = false) : wfT (fT (nI w) (nI (kV b n (q1 b n c p).2)) (nI (kV b n (q2 b n c p).2)) (if itM b n c p < 0 then a 0 0 else itM b n c p) (itF b n c p) (itH b n c p)) := by
  obtain ⟨h1, h2, h3, h4, h5, h6, h7⟩ := q6_in h
  refine ⟨⟨w, hk, rfl⟩, ⟨_, h2, rfl⟩, ⟨_, h3, rfl⟩, fun e => h4 ((nI_inj (by omega) (by omega) e).symm), ?_, ?_, ?_, ⟨0, by omega, rfl⟩, ⟨0, by omega, rfl⟩⟩
  · show ps_S (if itM b n c p < 0 then a 0 0 else itM b n c p)
    unfold itM
    cases q : tkw b n (q3 b n c p) 7
    · rw [if_neg (show ¬ false = true by decide), if_pos (by decide)]; exact hw.2.1
    · have := h6 q
      rw [if_pos rfl, if_neg (nI_pos (by omega))]
      exact ⟨_, by omega, rfl⟩
  · show itF b n c p = 0 ∨ itF b n c p = 1
    unfold itF
    split
    · exact Or.inl rfl
    · exact Or.inr rfl
  · show ∃ j, j ≤ 9999 ∧ itH b n c p = nI j
    unfold itH
    cases q : tkw b n (q4 b n c p) 8
    · exact ⟨0, by omega, rfl⟩
    · exact ⟨_, h7 q, rfl⟩
theorem it6_0 (x0 x1 x2 x3 x4 x5 : Int32) : it6 x0 x1 x2 x3 x4 x5 0 = x0 := rfl
theorem apI_t {a : AW} {w : Nat} {x1 x2 x3 x4 x5 : Int32} (hw : w ≤ 6) : apI a (it6 (nI w) x1 x2 x3 x4 x5) = signA a (fT (nI w) x1 x2 (if x3 < 0 then a 0 0 else x3) x5 x4) := by
  unfold apI
  rw [it6_0]
  have ne : ∀ k : Nat, 7 ≤ k → k < 20 → ¬ nI w = nI k := fun k h1 h2 e => by have := nI_inj (by omega) (by omega) e; omega
  rw [if_neg (show ¬ nI w = 10 from ne 10 (by omega) (by omega)), if_neg (show ¬ nI w = 11 from ne 11 (by omega) (by omega)), if_neg (show ¬ nI w = 12 from ne 12 (by omega) (by omega))]
  rfl
theorem x_item {b : Nat → Nat} {n p y : Nat} {a : AW} {σ : mt_St} (hn : n ≤ 120) (hb : ∀ k, k < n → b k < 256) (hp : p ≤ n) (hT : TX b n σ) (hC : CX b n σ p) (hw : wfA a y) (h : SX a σ 25) : ∃ σ', fX0_readItem 5000 σ 25 = some (bN (!(itS b n (nA a) p).1), σ') ∧ CX b n σ' (itS b n (nA a) p).2 ∧ frQ σ σ' ∧ ((itS b n (nA a) p).1 = false → SX (apI a (itI b n (nA a) p)) σ' 25 ∧ wfA (apI a (itI b n (nA a) p)) y ∧ nA (apI a (itI b n (nA a) p)) = itC b n (nA a) p) := by
  have hn8 := hw.n8
  have l1 := (kE_r hb hp).2.1
  unfold fX0_readItem
  rw [x_kind hn hb hp hT hC, pu_ask]
  rcases rkd_c b n p 7 with ⟨w, hw7, h1, h2⟩ | ⟨h1, h2⟩
  · have hr : 0 ≤ rkd b n p 7 := by rw [h2]; exact nI_le (a := 0) (by omega) (by omega)
    obtain ⟨σ1, a1, a2, a3, a4⟩ := x_powers (w := w) hn hb hp hT hC hw h
    unfold itS itI itC
    rw [if_pos hr, if_pos hr, if_pos hr, h2, if_neg (nI_pos (by omega)), a1, pu_call]
    unfold bX0_readItem_30 bX0_readItem_31
    cases z3 : (q3 b n (nA a) p).1
    · obtain ⟨z8, s1⟩ := a4 z3
      obtain ⟨σ2, b1, b2, b3, b4⟩ := x_terms hn hb hp (hT.fr a3) a2 z3 z8 s1
      rw [Bool.not_false, bN_t, if_neg i10', b1, pu_call]
      have fin : ∀ x : Bool, (if bN x = 0 then mt_chk (mt_b01 0) (some ((0 : Int32), σ2)) else mt_chk (mt_b01 1) (some ((1 : Int32), σ2))) = some (bN x, σ2) := fun x => by cases x <;> rfl
      refine ⟨σ2, fin _, b2, a3.tr b3, fun z => ?_⟩
      rw [apI_t (by omega)]
      exact ⟨b4 z, wf_sign hw z8 (fT_wf hw (by omega) z), (signA_f z8).1⟩
    · have e6 : q6 b n (nA a) p = q3 b n (nA a) p := by
        have e4 : q4 b n (nA a) p = q3 b n (nA a) p := by
          unfold q4 tm
          rw [if_neg]
          intro z
          have := (tkw_ok z).1
          rw [z3] at this
          cases this
        have e5 : q5 b n (nA a) p = q3 b n (nA a) p := by
          unfold q5 tm
          rw [e4, if_neg]
          intro z
          have := (tkw_ok z).1
          rw [z3] at this
          cases this
        unfold q6 aft
        rw [e5, if_neg]
        intro z
        have := (tkw_ok z).1
        rw [z3] at this
        cases this
      rw [Bool.not_true, bN_f, if_pos rfl, pu_b0, pu_chk, e6, z3]
      exact ⟨σ1, rfl, a2, a3, fun z => by cases z⟩
  · have hr : ¬ 0 ≤ rkd b n p 7 := by rw [h2]; decide
    have wd : ∀ v, v < 13 → fX0_isWord 5000 σ v = some (bN (isWd b n p v)) := fun v hv => x_isWd hn hb hp hv hT hC.1 hC.2.1 hC.2.2.1
    unfold itS itI itC
    rw [if_neg hr, if_neg hr, if_neg hr, h2, if_pos (by decide), wd 10 (by decide), pu_ask, wd 11 (by decide), pu_ask, wd 12 (by decide), pu_ask]
    have one : ∀ k : Nat, (k = 0 ∨ k = 1) → ∃ σ', (mt_call (fX0_advance 5000 σ) fun _ s13 => mt_bnd (mt_up s13 25 k (s13 44 5)) fun s14 => mt_call (fX0_passNumber 5000 s14 (4095 : Int32)) fun r15 s16 => mt_chk (mt_b01 r15) (some (r15, s16))) = some (bN (!(nu b n (false, kE b n p) 4095).1), σ') ∧ CX b n σ' (nu b n (false, kE b n p) 4095).2 ∧ frQ σ σ' ∧ ((nu b n (false, kE b n p) 4095).1 = false → SX (mt_row a 0 (upd (a 0) k (nI (kV b n (kE b n p))))) σ' 25 ∧ wfA (mt_row a 0 (upd (a 0) k (nI (kV b n (kE b n p))))) y ∧ nA (mt_row a 0 (upd (a 0) k (nI (kV b n (kE b n p))))) = nA a) := by
      intro k hk
      obtain ⟨σ1, a1, a2, a3⟩ := x_ad hn hb hp hT hC
      have T1 := hT.fr a3.frQ
      have F1 : frQ σ1 (mt_up σ1 25 k (nI (kV b n (kE b n p)))) := frQ.up (by omega) (by omega)
      obtain ⟨σ2, b1, b2, b3⟩ := x_pn (lim := 4095) (L := 4095) hn hb l1 (T1.fr F1) (a2.up (c := 25) (k := k) (v := nI (kV b n (kE b n p))) (by omega)) (by decide) rfl
      have hN : nA (mt_row a 0 (upd (a 0) k (nI (kV b n (kE b n p))))) = nA a := by unfold nA; rw [mt_row_s, pu_upd_n (by omega)]
      rw [a1, pu_call, pu_bnd, a2.2.2.2, b1, pu_call, bN_c, pu_chk]
      cases n1 : isNm b n (kE b n p) 4095
      · have e : nu b n (false, kE b n p) 4095 = (true, kE b n p) := by unfold nu; rw [show isNm b n (false, kE b n p).2 4095 = false from n1]; exact mu_f rfl
        rw [n1, if_neg (show ¬ false = true by decide)] at b2
        rw [e]
        exact ⟨σ2, rfl, b2, (a3.frQ.tr F1).tr b3.frQ, fun z => by cases z⟩
      · have e : nu b n (false, kE b n p) 4095 = (false, kE b n (kE b n p)) := by unfold nu; rw [show isNm b n (false, kE b n p).2 4095 = true from n1]; exact mu_y rfl
        rw [n1, if_pos rfl] at b2
        rw [e]
        have v1 := (isNm_r n1).2
        refine ⟨σ2, rfl, b2, (a3.frQ.tr F1).tr b3.frQ, fun _ => ⟨((h.sx hn8 a3).num hk).sx (by rw [hN]; exact hn8) b3, wf_num hw hk ⟨_, by omega, rfl⟩, hN⟩⟩
    cases w10 : isWd b n p 10
    · rw [bN_f, if_pos rfl, if_neg (show ¬ false = true by decide), if_neg (show ¬ false = true by decide)]
      cases w11 : isWd b n p 11
      · rw [bN_f, if_pos rfl, if_neg (show ¬ false = true by decide), if_neg (show ¬ false = true by decide)]
        unfold bX0_readItem_111 bX0_readItem_112
        cases w12 : isWd b n p 12
        · rw [bN_f, if_pos rfl, if_neg (show ¬ false = true by decide)]
          exact ⟨σ, rfl, hC, frQ.rf, fun z => by cases z⟩
        · rw [bN_t, if_neg i10', if_pos rfl]
          obtain ⟨σ1, a1, a2, a3⟩ := x_ad hn hb hp hT hC
          have T1 := hT.fr a3.frQ
          obtain ⟨σ2, b1, b2, b3⟩ := x_pn (lim := 5) (L := 5) hn hb l1 T1 a2 (by decide) rfl
          have T2 := T1.fr b3.frQ
          have l2 := (kE_r hb l1).2.1
          unfold fX0_readEvent bX0_readEvent_37
          rw [a1, pu_call, b1, pu_call]
          cases n1 : isNm b n (kE b n p) 5
          · have e : nu b n (false, kE b n p) 5 = (true, kE b n p) := by unfold nu; rw [show isNm b n (false, kE b n p).2 5 = false from n1]; exact mu_f rfl
            have e2 : nu b n (nu b n (false, kE b n p) 5) 12 = (true, kE b n p) := by rw [e]; unfold nu; exact mu_t rfl
            rw [n1, if_neg (show ¬ false = true by decide)] at b2
            rw [bN_f, if_pos rfl, pu_call, if_pos rfl, e2]
            exact ⟨σ2, rfl, b2, a3.frQ.tr b3.frQ, fun z => by cases z⟩
          · have e : nu b n (false, kE b n p) 5 = (false, kE b n (kE b n p)) := by unfold nu; rw [show isNm b n (false, kE b n p).2 5 = true from n1]; exact mu_y rfl
            rw [n1, if_pos rfl] at b2
            have v1 := (isNm_r n1).2
            have F2 : frQ σ2 (mt_up σ2 26 (kV b n (kE b n p)) (nI (kV b n (kE b n (kE b n p))))) := frQ.up (by omega) (by omega)
            obtain ⟨σ3, c1, c2, c3⟩ := x_pn (lim := 12) (L := 12) hn hb l2 (T2.fr F2) (b2.up (c := 26) (k := kV b n (kE b n p)) (v := nI (kV b n (kE b n (kE b n p)))) (by omega)) (by decide) rfl
            have F := ((a3.frQ.tr b3.frQ).tr F2).tr c3.frQ
            rw [bN_t, if_neg i10', a2.2.2.2, x_win, pu_ask, show okR (nI (kV b n (kE b n p))) 5 = true from okR_of (m := 5) v1 (by decide), bN_t, if_neg i10', pu_chkP (pu_in (by omega) (by decide)), pu_bnd, nI_clamp (by omega), b2.2.2.2, c1, pu_call, bN_c, pu_chk, pu_call, e]
            cases n2 : isNm b n (kE b n (kE b n p)) 12
            · have e2 : nu b n (false, kE b n (kE b n p)) 12 = (true, kE b n (kE b n p)) := by unfold nu; rw [show isNm b n (false, kE b n (kE b n p)).2 12 = false from n2]; exact mu_f rfl
              rw [n2, if_neg (show ¬ false = true by decide)] at c2
              rw [bN_f, if_pos rfl, e2]
              exact ⟨σ3, rfl, c2, F, fun z => by cases z⟩
            · have e2 : nu b n (false, kE b n (kE b n p)) 12 = (false, kE b n (kE b n (kE b n p))) := by unfold nu; rw [show isNm b n (false, kE b n (kE b n p)).2 12 = true from n2]; exact mu_y rfl
              rw [n2, if_pos rfl] at c2
              have v2 := (isNm_r n2).2
              rw [bN_t, if_neg i10', e2]
              have ea : apI a (it6 12 (nI (kV b n (kE b n p))) (nI (kV b n (false, kE b n (kE b n p)).2)) 0 0 0) = mt_row a 1 (upd (a 1) (kV b n (kE b n p)) (nI (kV b n (kE b n (kE b n p))))) := by
                unfold apI
                rw [it6_0, if_neg (by decide), if_neg (by decide), if_pos rfl]
                show mt_row a 1 (upd (a 1) (Int32.toNatClampNeg (nI (kV b n (kE b n p)))) (nI (kV b n (kE b n (kE b n p))))) = _
                rw [nI_clamp (by omega)]
              have hN : nA (mt_row a 1 (upd (a 1) (kV b n (kE b n p)) (nI (kV b n (kE b n (kE b n p)))))) = nA a := by unfold nA; rw [mt_row_n (by decide)]
              rw [ea]
              have s2 : SX a σ2 25 := h.same hn8 (fun c p q => by rw [b3.1 c (by omega), a3.1 c (by omega)])
              exact ⟨σ3, rfl, c2, F, fun _ => ⟨(SX.evt s2).sx (by rw [hN]; exact hn8) c3, wf_evt hw v2, hN⟩⟩
      · rw [bN_t, if_neg i10', if_pos rfl, if_pos rfl]
        exact one 1 (Or.inr rfl)
    · rw [bN_t, if_neg i10', if_pos rfl, if_pos rfl]
      exact one 0 (Or.inl rfl)
