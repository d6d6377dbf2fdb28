/-! the reference's text -/
def FR (σ σ' : mt_St) : Prop := (∀ c, c ≠ 56 → c ≠ 57 → c ≠ 63 → σ' c = σ c) ∧ σ' 56 3 = σ 56 3
theorem kS3 {b : Nat → Nat} {n q : Nat} (hq : q ≤ n) (h : min (kS b n q) 3 = 3) : kB b n q < n ∧ (b (kB b n q) = 59 ↔ kS b n q = 3) := by
  unfold kS at h ⊢
  by_cases c : n ≤ kB b n q
  · rw [if_pos c] at h; omega
  · rw [if_neg c] at h ⊢
    refine ⟨by omega, ?_⟩
    by_cases c1 : isLt (b (kB b n q)) = true
    · rw [if_pos c1] at h; omega
    · rw [if_neg c1] at h ⊢
      by_cases c2 : isDg (b (kB b n q)) = true
      · rw [if_pos c2] at h; omega
      · rw [if_neg c2]
        by_cases c3 : b (kB b n q) = 59
        · rw [if_pos c3]; exact ⟨fun _ => rfl, fun _ => c3⟩
        · rw [if_neg c3]; exact ⟨fun z => absurd z c3, fun z => by omega⟩
theorem m_textWrong {b : Nat → Nat} {n : Nat} {s : Bool × Nat} {σ : mt_St} (hn : n ≤ 120) (hb : ∀ k, k < n → b k < 256) (hT : TM b n σ) (hp : s.2 ≤ n) (hK : KM b n σ s) (h : s.1 = true ∨ kS b n s.2 ≠ 0) : ∃ σ', bX6_text_74 5000 σ = some (-1 - nI (kB b n s.2), σ') ∧ (∀ c, c ≠ 56 → σ' c = σ c) ∧ σ' 56 3 = σ 56 3 ∧ σ' 56 7 = 0 := by
  have hS := kS_r b n s.2
  have go : ∀ q : Bool, (mu b n s q).1 = true → (mu b n s q).2 = s.2 → ∃ σ', bX6_text_87 5000 σ (bN q) = some (-1 - nI (kB b n s.2), σ') ∧ (∀ c, c ≠ 56 → σ' c = σ c) ∧ σ' 56 3 = σ 56 3 ∧ σ' 56 7 = 0 := by
    intro q z1 z2
    obtain ⟨σ1, a1, a2, a3⟩ := m_must hn hb hT hp hK q
    have e12 : mt_up σ1 56 7 0 56 12 = 1 := by rw [pu_up, mt_row_s, pu_upd_n (by decide), a2.1, z1]; rfl
    have e8 : mt_up σ1 56 7 0 56 8 = nI (kB b n s.2) := by rw [pu_up, mt_row_s, pu_upd_n (by decide), a2.2.1, z2]
    unfold bX6_text_87
    rw [a1, pu_call, pu_bnd, e12, if_neg i10', e8]
    exact ⟨_, rfl, fun c hc => by rw [pu_up, mt_row_n hc]; exact a3.1 c hc, by rw [pu_up, mt_row_s, pu_upd_n (by decide)]; exact a3.2 3 (by omega), by rw [pu_up, mt_row_s, pu_upd_s]⟩
  unfold bX6_text_74
  cases z : s.1
  · have k0 : kS b n s.2 ≠ 0 := by
      rcases h with h | h
      · rw [z] at h; cases h
      · exact h
    rw [(hK.2.2 z).2.1, if_neg (show ¬ nI (min (kS b n s.2) 3) = 0 from fun y => by have := nI_inj (i := min (kS b n s.2) 3) (t := 0) (by omega) (by omega) y; omega)]
    exact go false (by rw [mu_f z]) (by rw [mu_f z])
  · by_cases c : σ 56 10 = 0
    · rw [if_pos c]
      exact go true (by rw [mu_t z]; exact z) (by rw [mu_t z])
    · rw [if_neg c]
      exact go false (by rw [mu_t z]; exact z) (by rw [mu_t z])
theorem m_textLoop {b : Nat → Nat} {n y : Nat} {a0 : AW} (hn : n ≤ 120) (hb : ∀ k, k < n → b k < 256) : ∀ (f i p : Nat) (I : Nat → Nat → Int32) (σ : mt_St) (fuel : Nat), n + 1 ≤ f + p → p ≤ n → 2 * i ≤ p → f < fuel → TM b n σ → KM b n σ (false, p) → σ 56 15 = nI i → σ 56 16 = nI (nA (fo I a0 i)) → (∀ j, j < i → ∀ k, k < 6 → σ 63 (6 * j + k) = I j k) → (∀ j, j < i → okI (fo I a0 j) (I j)) → (∀ j, j ≤ i → wfA (fo I a0 j) y) → SM a0 (σ 57) → ∃ σ', (mt_call (fX6_readItem 5000 σ) fun _ s8 => bX6_text_33 5000 fuel s8) = some ((pT b n f i (fo I a0 i) p).1, σ') ∧ FR σ σ' ∧ σ' 56 7 = 0 ∧ ((pT b n f i (fo I a0 i) p).2 = none → σ' 57 = σ 57) ∧ ∀ a', (pT b n f i (fo I a0 i) p).2 = some a' → SM a' (σ' 57) := by
  intro f
  induction f with
  | zero => intro i p I σ fuel h1 h2; omega
  | succ f ih =>
    intro i p I σ fuel h1 h2 h3 hf hT hK h15 h16 hI ho hw h
    obtain ⟨fuel, rfl⟩ : ∃ q, fuel = q + 1 := ⟨fuel - 1, by omega⟩
    have wi := hw i (Nat.le_refl _)
    obtain ⟨σ1, a1, a2, a3, a4⟩ := m_item (i := i) hn hb hT h2 hK wi.n8 h16 (by omega) h15
    obtain ⟨lq, gq⟩ := itS_gt (c := nA (fo I a0 i)) hb h2
    have T1 : TM b n σ1 := ⟨(a2.2 7 (by omega)).trans hT.1, fun k hk => by rw [a2.1 61 (by decide) (by decide)]; exact hT.2 k hk⟩
    have F1 : FR σ σ1 := ⟨fun c p q r => a2.1 c p r, a2.2 3 (by omega)⟩
    have e57 : σ1 57 = σ 57 := a2.1 57 (by decide) (by decide)
    have hS := kS_r b n (itS b n (nA (fo I a0 i)) p).2
    rw [a1, pu_call, pT_s]
    unfold bX6_text_33
    rw [a3.1]
    have bad : ((itS b n (nA (fo I a0 i)) p).1 = true ∨ kS b n (itS b n (nA (fo I a0 i)) p).2 ≠ 0) → ∃ σ', bX6_text_74 5000 σ1 = some (((-1 : Int32) - nI (kB b n (itS b n (nA (fo I a0 i)) p).2), (none : Option AW)).1, σ') ∧ FR σ σ' ∧ σ' 56 7 = 0 ∧ (((-1 : Int32) - nI (kB b n (itS b n (nA (fo I a0 i)) p).2), (none : Option AW)).2 = none → σ' 57 = σ 57) ∧ ∀ a', ((-1 : Int32) - nI (kB b n (itS b n (nA (fo I a0 i)) p).2), (none : Option AW)).2 = some a' → SM a' (σ' 57) := by
      intro hh
      obtain ⟨σ2, b1, b2, b3, b4⟩ := m_textWrong hn hb T1 lq a3 hh
      exact ⟨σ2, b1, ⟨fun c p q r => (b2 c p).trans (F1.1 c p q r), b3.trans F1.2⟩, b4, fun _ => (b2 57 (by decide)).trans e57, fun a' z => by cases z⟩
    cases z : (itS b n (nA (fo I a0 i)) p).1
    · rw [bN_f, if_pos rfl, if_neg (show ¬ false = true by decide)]
      obtain ⟨g1, g2, g3, g4⟩ := a4 z
      obtain ⟨k9, k10, k11⟩ := a3.2.2 z
      obtain ⟨o1, o2, o3⟩ := api_ok wi z
      -- the items with the new one
      have Iold : ∀ j, j < i → (fun j => if j = i then itI b n (nA (fo I a0 i)) p else I j) j = I j := fun j hj => by
        show (if j = i then itI b n (nA (fo I a0 i)) p else I j) = I j
        rw [if_neg (by omega)]
      have Inew : (fun j => if j = i then itI b n (nA (fo I a0 i)) p else I j) i = itI b n (nA (fo I a0 i)) p := by
        show (if i = i then itI b n (nA (fo I a0 i)) p else I i) = _
        rw [if_pos rfl]
      generalize hJ : (fun j => if j = i then itI b n (nA (fo I a0 i)) p else I j) = J at Iold Inew
      have fle : ∀ j, j ≤ i → fo J a0 j = fo I a0 j := fun j hj => fo_cg j (fun l hl => Iold l (by omega))
      have fnew : fo J a0 (i + 1) = apI (fo I a0 i) (itI b n (nA (fo I a0 i)) p) := by
        show apI (fo J a0 i) (J i) = _
        rw [fle i (Nat.le_refl _), Inew]
      have J63 : ∀ j, j < i + 1 → ∀ k, k < 6 → σ1 63 (6 * j + k) = J j k := fun j hj k hk => by
        by_cases q : j = i
        · subst q; rw [Inew]; exact g4 k hk
        · rw [Iold j (by omega), g3 _ (by omega)]; exact hI j (by omega) k hk
      have Jok : ∀ j, j < i + 1 → okI (fo J a0 j) (J j) := fun j hj => by
        by_cases q : j = i
        · subst q; rw [fle j (Nat.le_refl _), Inew]; exact o3
        · rw [fle j (by omega), Iold j (by omega)]; exact ho j (by omega)
      have Jwf : ∀ j, j ≤ i + 1 → wfA (fo J a0 j) y := fun j hj => by
        by_cases q : j = i + 1
        · subst q; rw [fnew]; exact o1
        · rw [fle j (by omega)]; exact hw j (by omega)
      by_cases c0 : kS b n (itS b n (nA (fo I a0 i)) p).2 = 0
      · have s0 : σ1 56 10 = 0 := by rw [k10, c0]; rfl
        obtain ⟨σ2, b1, b2, b3⟩ := m_must hn hb T1 lq a3 true
        rw [mu_y z] at b2
        rw [bN_t] at b1
        have c56 : ∀ k, k ≠ 7 → mt_up σ2 56 7 0 56 k = σ2 56 k := fun k hk => by rw [pu_up, mt_row_s, pu_upd_n hk]
        have cc : ∀ c, c ≠ 56 → mt_up σ2 56 7 0 c = σ1 c := fun c hc => by rw [pu_up, mt_row_n hc]; exact b3.1 c hc
        obtain ⟨r, d1, d2⟩ := m_apply (I := J) (a0 := a0) (m := i + 1) (by omega) Jwf Jok (i + 1) 0 5000 (mt_up σ2 56 7 0) (by omega) (by omega) (by rw [c56 15 (by decide), b3.2 15 (by omega)]; exact g1) (fun j hj k hk => by rw [cc 63 (by decide)]; exact J63 j hj k hk) (by rw [cc 57 (by decide), e57]; exact h)
        rw [if_neg (show ¬ σ1 56 10 = 3 by rw [s0]; decide), if_pos c0]
        refine ⟨mt_row (mt_up σ2 56 7 0) 57 r, ?_, ⟨fun c p q r => ?_, ?_⟩, ?_, fun y => ?_, fun a' e => ?_⟩
        · unfold bX6_text_74 bX6_text_87
          rw [if_pos s0, b1, pu_call, pu_bnd, c56 12 (by decide), b2.1, bN_f, if_pos rfl]
          exact d1
        · rw [mt_row_n q, cc c p]; exact F1.1 c p q r
        · rw [mt_row_n (by decide), c56 3 (by decide), b3.2 3 (by omega)]; exact F1.2
        · rw [mt_row_n (by decide), pu_up, mt_row_s, pu_upd_s]
        · cases y
        · injection e with e
          subst e
          rw [mt_row_s, ← fnew]
          exact d2
      · rw [if_neg c0]
        by_cases c3 : kS b n (itS b n (nA (fo I a0 i)) p).2 = 3
        · have hm : min (kS b n (itS b n (nA (fo I a0 i)) p).2) 3 = 3 := by rw [c3]; rfl
          obtain ⟨hB, h59⟩ := kS3 lq hm
          obtain ⟨σ2, b1, b2, b3⟩ := m_must hn hb T1 lq a3 true
          rw [mu_y z] at b2
          rw [bN_t] at b1
          have hE := kE_r hb lq
          have hB2 := kB_r (b := b) lq
          have := gq z
          have := hE.2.2 (by omega)
          obtain ⟨σ3, d1, d2, d3, d4, d5⟩ := ih (i + 1) (kE b n (itS b n (nA (fo I a0 i)) p).2) J σ2 fuel (by omega) hE.2.1 (by omega) (by omega) (T1.st b3) b2 ((b3.2 15 (by omega)).trans g1) (by rw [b3.2 16 (by omega), fnew, o2]; exact g2) (fun j hj k hk => by rw [b3.1 63 (by decide)]; exact J63 j hj k hk) Jok Jwf (by rw [b3.1 57 (by decide), e57]; exact h)
          rw [fnew] at d1 d4 d5
          have b57 : σ2 57 = σ 57 := (b3.1 57 (by decide)).trans e57
          rw [if_pos (show σ1 56 10 = 3 by rw [k10, hm]; rfl), a3.2.1, pu_chkP (pu_in (by omega) (by decide)), nI_clamp (by omega), T1.2 _ hB, if_pos ((nB_59 _ (hb _ hB)).mpr (h59.mpr c3)), b1, pu_call, if_pos c3]
          exact ⟨σ3, d1, ⟨fun c p q r => by rw [d2.1 c p q r, b3.1 c p]; exact F1.1 c p q r, by rw [d2.2, b3.2 3 (by omega)]; exact F1.2⟩, d3, fun y => by rw [d4 y, b57], d5⟩
        · rw [if_neg c3]
          by_cases m3 : min (kS b n (itS b n (nA (fo I a0 i)) p).2) 3 = 3
          · obtain ⟨hB, h59⟩ := kS3 lq m3
            rw [if_pos (show σ1 56 10 = 3 by rw [k10, m3]; rfl), a3.2.1, pu_chkP (pu_in (by omega) (by decide)), nI_clamp (by omega), T1.2 _ hB, if_neg (fun q => c3 (h59.mp ((nB_59 _ (hb _ hB)).mp q)))]
            exact bad (Or.inr c0)
          · rw [if_neg (show ¬ σ1 56 10 = 3 by rw [k10]; exact fun q => m3 (nI_inj (i := min (kS b n (itS b n (nA (fo I a0 i)) p).2) 3) (t := 3) (by omega) (by omega) q))]
            exact bad (Or.inr c0)
    · rw [bN_t, if_neg i10', if_pos rfl]
      exact bad (Or.inl z)
theorem RR.text {σ σ' : mt_St} {y : Nat} {a : AW} (h : RR σ y) (ha : RA σ' y a) (e : ∀ c, c = 0 ∨ (13 ≤ c ∧ c ≤ 24) ∨ (45 ≤ c ∧ c ≠ 56 ∧ c ≠ 57 ∧ c ≠ 63) → σ' c = σ c) (e3 : σ' 56 3 = σ 56 3) (e7 : σ' 56 7 = 0) (e1 : σ' 44 1 = 0) : RR σ' y := by
  obtain ⟨-, h2, h3, h4, h5⟩ := h
  exact ⟨⟨a, ha⟩, h2.same (fun c p q => e c (by omega)) (e 58 (by omega)) (e 0 (by omega)) e3, h3.same (e 55 (by omega)) (e 60 (by omega)), h4.same (fun c p q => e c (by omega)) (e 64 (by omega)) (e 65 (by omega)) (e 66 (by omega)), by rw [e7, e1], 0, by omega, e1, fun k hk => by omega⟩
theorem e_text {σ : mt_St} {y : Nat} (h : RR σ y) : EV (fun s => fX5_text 5000 s) (fun s => fX6_text 5000 s) σ y := by
  obtain ⟨⟨a, ha⟩, -, -, -, t7, n, hn, en, tb⟩ := id h
  have hn8 := ha.1.n8
  obtain ⟨i7, i1⟩ := ha.isT
  -- the tape
  have hb0 : ∀ k, k < n → (σ 61 k).toNatClampNeg < 256 ∧ σ 61 k = nI (σ 61 k).toNatClampNeg ∧ σ 45 k = sB (σ 61 k).toNatClampNeg := fun k hk => by
    obtain ⟨x, hx, e1, e2⟩ := tb k hk
    rw [e1, nI_clamp (by omega)]
    exact ⟨hx, rfl, e2⟩
  generalize hB : (fun k => (σ 61 k).toNatClampNeg) = b
  have hbk : ∀ k, b k = (σ 61 k).toNatClampNeg := fun k => by rw [← hB]
  have hb : ∀ k, k < n → b k < 256 := fun k hk => by rw [hbk]; exact (hb0 k hk).1
  -- the class
  obtain ⟨σ1, a1, a2, a3⟩ := x_become (fu := 5000) (w := 25) (s := 1) (by omega) (by omega) ha.1 ha.2.1
  have T1 : TX b n (mt_up σ1 44 4 0) := ⟨by rw [pu_up, mt_row_s, pu_upd_n (by decide), a3 44 (by omega)]; exact en, fun k hk => by rw [pu_up, mt_row_n (by decide), a3 45 (by omega), hbk]; exact (hb0 k hk).2.2⟩
  obtain ⟨g, g1, g2, g3, g4, g5, g6⟩ := x_adv (p := 0) hn hb (by omega) T1 (by rw [pu_up, mt_row_s, pu_upd_s]; rfl)
  have T2 : TX b n (mt_row (mt_up σ1 44 4 0) 44 g) := T1.row (g6 1 (by omega))
  have C2 : CX b n (mt_row (mt_up σ1 44 4 0) 44 g) 0 := ⟨by rw [mt_row_s]; exact g2, by rw [mt_row_s]; exact g3, by rw [mt_row_s]; exact g4, by rw [mt_row_s]; exact g5⟩
  have S2 : SX a (mt_row (mt_up σ1 44 4 0) 44 g) 25 := a2.same hn8 (fun c p q => by rw [mt_row_n (by omega), pu_up, mt_row_n (by omega)])
  obtain ⟨σ2, c1, c2, c3, c4⟩ := x_readLoop (y := y) hn hb (n + 1) 0 0 a (mt_row (mt_up σ1 44 4 0) 44 g) 5000 (by omega) (by omega) (by omega) (by omega) T2 C2 ha.1 S2
  have c1' : bX0_readInto_11 5000 25 5000 (mt_row (mt_up σ1 44 4 0) 44 g) 1 = some ((pT b n (n + 1) 0 a 0).1, σ2) := c1
  have F2 : ∀ c, c < 25 ∨ (36 < c ∧ c ≠ 44) → σ2 c = σ c := fun c hc => by rw [c2.1 c hc, mt_row_n (by omega), pu_up, mt_row_n (by omega)]; exact a3 c (by omega)
  have rd : fX0_readInto 5000 σ1 25 = some ((pT b n (n + 1) 0 a 0).1, σ2) := by
    unfold fX0_readInto
    rw [pu_bnd, g1, pu_call]
    exact c1'
  have FX : ∀ c, c < 25 ∨ (36 < c ∧ c ≠ 44) → mt_up σ2 44 1 0 c = σ c := fun c hc => by rw [pu_up, mt_row_n (by omega)]; exact F2 c hc
  have e44 : mt_up σ2 44 1 0 44 1 = 0 := by rw [pu_up, mt_row_s, pu_upd_s]
  -- the reference, from any state that is as the first but for what the class has done
  have ref : ∀ τ : mt_St, (∀ c, 45 ≤ c → τ c = σ c) → ∃ τ', fX6_text 5000 τ = some ((pT b n (n + 1) 0 a 0).1, τ') ∧ FR τ τ' ∧ τ' 56 7 = 0 ∧ ((pT b n (n + 1) 0 a 0).2 = none → τ' 57 = τ 57) ∧ ∀ a', (pT b n (n + 1) 0 a 0).2 = some a' → SM a' (τ' 57) := by
    intro τ hτ
    generalize hs4 : mt_row τ 56 (upd (upd (upd (upd (τ 56) 9 0) 12 0) 15 0) 16 (nI (nA a))) = s4
    have s56 : s4 56 = upd (upd (upd (upd (τ 56) 9 0) 12 0) 15 0) 16 (nI (nA a)) := by rw [← hs4, mt_row_s]
    have sc : ∀ c, c ≠ 56 → s4 c = τ c := fun c hc => by rw [← hs4, mt_row_n hc]
    have T4 : TM b n s4 := ⟨by rw [s56, pu_upd_n (by decide), pu_upd_n (by decide), pu_upd_n (by decide), pu_upd_n (by decide), hτ 56 (by decide), t7]; exact en, fun k hk => by rw [sc 61 (by decide), hτ 61 (by decide), hbk]; exact (hb0 k hk).2.1⟩
    obtain ⟨u, u1, u2, u3, u4, u5, u6⟩ := m_tok (p := 0) hn hb (by omega) T4 (by rw [s56, pu_upd_n (by decide), pu_upd_n (by decide), pu_upd_n (by decide), pu_upd_s]; rfl)
    have T5 : TM b n (mt_row s4 56 u) := T4.row (u6 7 (by omega))
    have K5 : KM b n (mt_row s4 56 u) (false, 0) := ⟨by rw [mt_row_s, u6 12 (by omega), s56, pu_upd_n (by decide), pu_upd_n (by decide), pu_upd_s]; rfl, by rw [mt_row_s]; exact u2, fun _ => ⟨by rw [mt_row_s]; exact u3, by rw [mt_row_s]; exact u4, by rw [mt_row_s]; exact u5⟩⟩
    have w0 : ∀ j, j ≤ 0 → wfA (fo (fun _ _ => 0) a j) y := fun j hj => by
      have : j = 0 := by omega
      subst this
      exact ha.1
    obtain ⟨τ', d1, d2, d3, d4, d5⟩ := m_textLoop (y := y) (a0 := a) hn hb (n + 1) 0 0 (fun _ _ => 0) (mt_row s4 56 u) 5000 (by omega) (by omega) (by omega) (by omega) T5 K5 (by rw [mt_row_s, u6 15 (by omega), s56, pu_upd_n (by decide), pu_upd_s]; rfl) (by rw [mt_row_s, u6 16 (by omega), s56, pu_upd_s]; rfl) (fun j hj => by omega) (fun j hj => by omega) w0 (by rw [mt_row_n (by decide), sc 57 (by decide), hτ 57 (by decide)]; exact ha.2.2)
    have e57 : mt_row s4 56 u 57 = τ 57 := by rw [mt_row_n (by decide), sc 57 (by decide)]
    refine ⟨τ', ?_, ⟨fun c p q r => ?_, ?_⟩, d3, fun z => ?_, d5⟩
    · unfold fX6_text
      rw [pu_bnd, pu_bnd, pu_bnd, pu_bnd, pu_up τ 56 9, row_up, row_up, mt_row_n (show 57 ≠ 56 by decide), hτ 57 (by decide), i1, row_up, hs4, u1, pu_call]
      exact d1
    · rw [d2.1 c p q r, mt_row_n p, sc c p]
    · rw [d2.2, mt_row_s, u6 3 (by omega), s56, pu_upd_n (by decide), pu_upd_n (by decide), pu_upd_n (by decide), pu_upd_n (by decide)]
    · rw [d4 z, e57]
  cases hres : (pT b n (n + 1) 0 a 0).2 with
  | none =>
    obtain ⟨τ', r1, r2, r3, r4, r5⟩ := ref (mt_up σ2 44 1 0) (fun c hc => FX c (by omega))
    refine ⟨(pT b n (n + 1) 0 a 0).1, mt_up σ2 44 1 0, τ', ?_, r1, ?_⟩
    · show fX5_text 5000 σ = _
      unfold fX5_text bX5_text_46
      rw [a1, pu_call, rd, pu_call, pu_bnd, if_pos (c3 hres)]
    · have hc : ∀ c, c ≠ 56 → c ≠ 57 → c ≠ 63 → (c < 25 ∨ (36 < c ∧ c ≠ 44)) → τ' c = σ c := fun c p q r s => by rw [r2.1 c p q r]; exact FX c s
      refine h.text (a := a) (ha.same (fun c p q => hc c (by omega) (by omega) (by omega) (by omega)) (fun k _ => by rw [r4 hres, FX 57 (by omega)])) (fun c hc' => hc c (by omega) (by omega) (by omega) (by omega)) ?_ r3 ?_
      · rw [r2.2, FX 56 (by omega)]
      · rw [r2.1 44 (by decide) (by decide) (by decide)]; exact e44
  | some a' =>
    obtain ⟨k1, k2, k3⟩ := c4 a' hres
    have k2' : SX a' (mt_up σ2 44 1 0) 25 := k2.same k3.n8 (fun c p q => by rw [pu_up, mt_row_n (by omega)])
    obtain ⟨σ3, b1, b2, b3⟩ := x_become (fu := 5000) (w := 1) (s := 25) (by omega) (by omega) k3 k2'
    obtain ⟨τ', r1, r2, r3, r4, r5⟩ := ref σ3 (fun c hc => by rw [b3 c (by omega)]; exact FX c (by omega))
    refine ⟨(pT b n (n + 1) 0 a 0).1, σ3, τ', ?_, r1, ?_⟩
    · show fX5_text 5000 σ = _
      unfold fX5_text bX5_text_46
      rw [a1, pu_call, rd, pu_call, pu_bnd, if_neg k1, b1, pu_call]
    · have hc : ∀ c, c ≠ 56 → c ≠ 57 → c ≠ 63 → (c = 0 ∨ (13 ≤ c ∧ c < 25) ∨ (36 < c ∧ c ≠ 44)) → τ' c = σ c := fun c p q r s => by rw [r2.1 c p q r, b3 c (by omega)]; exact FX c (by omega)
      refine h.text (a := a') ⟨k3, b2.same k3.n8 (fun c p q => r2.1 c (by omega) (by omega) (by omega)), r5 a' hres⟩ (fun c hc' => hc c (by omega) (by omega) (by omega) (by omega)) ?_ r3 ?_
      · rw [r2.2, b3 56 (by omega), FX 56 (by omega)]
      · rw [r2.1 44 (by decide) (by decide) (by decide), b3 44 (by omega)]; exact e44
