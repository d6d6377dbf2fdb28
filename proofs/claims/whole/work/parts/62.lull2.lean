/-! lull: the class -/
def Ez (σ : mt_St) (sz s : Nat) : Prop := ∀ j, j < sz → pc (σ 40 j &&& (nI s ^^^ (-1 : Int32))) ≤ σ 41 j
theorem x_add {σ : mt_St} {sz f : Nat} {b : Int32} (hf : f < 4096) (h : σ 39 2 = nI sz) (hsz : sz < 192) : ∃ σ' sz', fX2_add 5000 σ (nI f) b = some ((), σ') ∧ (∀ c, c ≠ 39 → c ≠ 40 → c ≠ 41 → σ' c = σ c) ∧ σ' 39 2 = nI sz' ∧ sz' ≤ sz + 1 ∧ ∀ s, (Ez σ' sz' s ↔ Ez σ sz s ∧ pc (nI f &&& (nI s ^^^ (-1 : Int32))) ≤ b) := by
  unfold fX2_add bX2_add_48
  rw [pc_x, pu_ask]
  by_cases q : pc (nI f) ≤ b
  · rw [if_pos q]
    refine ⟨σ, sz, rfl, fun _ _ _ _ => rfl, h, by omega, fun s => ⟨fun e => ⟨e, ?_⟩, fun e => e.1⟩⟩
    rw [dif_n hf, pc_cnt _ (dif_lt hf)]
    rw [pc_cnt f hf] at q
    exact Int32.le_trans (nI_le (cnt_dif f s) (by have := cnt_12 f; omega)) q
  · rw [if_neg q, h, if_neg (show ¬ (192 : Int32) ≤ nI sz from nI_ge (b := 192) hsz (by decide)), pu_chkP (pu_in hsz (by decide)), pu_bnd, nI_clamp (by omega)]
    have e1 : mt_up σ 40 sz (nI f) 39 = σ 39 := by rw [pu_up, mt_row_n (by decide)]
    rw [e1, h, pu_chkP (pu_in hsz (by decide)), pu_bnd, nI_clamp (by omega)]
    have e2 : mt_up (mt_up σ 40 sz (nI f)) 41 sz b 39 = σ 39 := by rw [pu_up, mt_row_n (by decide), e1]
    rw [e2, h, pu_bnd, nI_1]
    have e40 : mt_up (mt_up (mt_up σ 40 sz (nI f)) 41 sz b) 39 2 (nI (sz + 1)) 40 = upd (σ 40) sz (nI f) := by
      rw [pu_up, mt_row_n (by decide), pu_up, mt_row_n (by decide), pu_up, mt_row_s]
    have e41 : mt_up (mt_up (mt_up σ 40 sz (nI f)) 41 sz b) 39 2 (nI (sz + 1)) 41 = upd (σ 41) sz b := by
      rw [pu_up, mt_row_n (by decide), pu_up, mt_row_s, pu_up, mt_row_n (by decide)]
    refine ⟨_, sz + 1, rfl, fun c p q r => ?_, ?_, by omega, fun s => ?_⟩
    · rw [pu_up, mt_row_n p, pu_up, mt_row_n r, pu_up, mt_row_n q]
    · rw [pu_up, mt_row_s, pu_upd_s]
    · unfold Ez
      rw [e40, e41]
      constructor
      · intro e
        refine ⟨fun j hj => ?_, ?_⟩
        · have := e j (by omega)
          rw [pu_upd_n (by omega), pu_upd_n (by omega)] at this
          exact this
        · have := e sz (by omega)
          rw [pu_upd_s, pu_upd_s] at this
          exact this
      · intro e j hj
        by_cases z : j = sz
        · subst z; rw [pu_upd_s, pu_upd_s]; exact e.2
        · rw [pu_upd_n z, pu_upd_n z]; exact e.1 j (by omega)
theorem bears_nd {T : Nat → Int32} {u v : Int32} (h : ¬ T 0 = 4) : bearsT T u = bearsT T v := by
  unfold bearsT
  rw [if_neg h, if_neg h]
theorem bears_d {T : Nat → Int32} {u : Int32} (h : T 0 = 4) : bearsT T u = if T 3 &&& u &&& 2048 = 0 then 2 else 0 := by
  unfold bearsT
  rw [h]
  rfl
theorem brk1_iff {T : Nat → Int32} {u : Int32} (h4 : ¬ T 4 = 0) : brk1 T u = 0 ↔ pc (T 3 &&& u) ≤ bearsT T u := by
  unfold brk1
  rw [if_neg h4]
  by_cases q : pc (T 3 &&& u) ≤ bearsT T u
  · rw [if_pos q]; exact ⟨fun _ => q, fun _ => rfl⟩
  · rw [if_neg q]; exact ⟨fun e => absurd e (by decide), fun e => absurd e q⟩
theorem dif_and (p j s : Nat) : p &&& dif j s = dif (p &&& j) s := by
  unfold dif; rw [Nat.and_assoc]
theorem dif_2048 (w s : Nat) : dif (w &&& 2048) s = dif w s &&& 2048 := by
  unfold dif
  rw [Nat.and_assoc, Nat.and_comm 2048, ← Nat.and_assoc]
theorem x_addOf {σ : mt_St} {T : Nat → Int32} {sz j : Nat} (hT : wfT T) (h37 : tE (σ 37) T) (hj : j < 4096) (h : σ 39 2 = nI sz) (hsz : sz + 1 < 192) : ∃ σ' sz', fX2_addOf 5000 σ 37 (nI j) = some ((), σ') ∧ (∀ c, c ≠ 39 → c ≠ 40 → c ≠ 41 → σ' c = σ c) ∧ σ' 39 2 = nI sz' ∧ sz' ≤ sz + 2 ∧ ∀ s, (Ez σ' sz' s ↔ Ez σ sz s ∧ brk1 T (nI j &&& (nI s ^^^ (-1 : Int32))) = 0) := by
  obtain ⟨p, hp, ep⟩ := hT.2.2.2.2.1
  have hw : p &&& j < 4096 := Nat.lt_of_le_of_lt Nat.and_le_left hp
  have e3 : σ 37 3 = nI p := (h37 3 (by decide)).trans ep
  unfold fX2_addOf bX2_addOf_33
  rw [h37 4 (by decide), h37 0 (by decide), e3, sx_and]
  by_cases h4 : T 4 = 0
  · rw [if_pos h4]
    refine ⟨σ, sz, rfl, fun _ _ _ _ => rfl, h, by omega, fun s => ⟨fun e => ⟨e, ?_⟩, fun e => e.1⟩⟩
    unfold brk1
    rw [if_pos h4]
  · rw [if_neg h4]
    have hb : ∀ s : Nat, brk1 T (nI j &&& (nI s ^^^ (-1 : Int32))) = 0 ↔ pc (nI (dif (p &&& j) s)) ≤ bearsT T (nI (dif j s)) := fun s => by
      rw [brk1_iff h4, ep, dif_n hj, sx_and, dif_and]
    by_cases h0 : T 0 = 4
    · rw [if_pos h0, show (2048 : Int32) = nI 2048 from rfl, sx_and]
      have hw2 : p &&& j &&& 2048 < 4096 := Nat.lt_of_le_of_lt Nat.and_le_left hw
      obtain ⟨σ1, z1, a1, a2, a3, a4, a5⟩ := x_add (b := 0) hw2 h (by omega)
      have eb : bearsT (σ1 37) 0 = 2 := by
        rw [a2 37 (by decide) (by decide) (by decide), tE_bears h37, bears_d h0, ps_a0 hT.2.2.2.2.1]
        rfl
      obtain ⟨σ2, z2, b1, b2, b3, b4, b5⟩ := x_add (σ := σ1) (b := 2) hw a3 (by omega)
      rw [a1, pu_call, x_bears, pu_ask, eb, b1, pu_call]
      refine ⟨σ2, z2, rfl, fun c p q r => (b2 c p q r).trans (a2 c p q r), b3, by omega, fun s => ?_⟩
      rw [b5 s, a5 s, hb s, dif_n hw, dif_n hw2, dif_2048, bears_d h0, ep, sx_and, dif_and]
      have hd := mskE_d (dif (p &&& j) s) (dif_lt hw)
      rw [show (2048 : Int32) = nI 2048 from rfl, sx_and] at hd
      rw [show (2048 : Int32) = nI 2048 from rfl, sx_and, hd, and_assoc]
    · rw [if_neg h0, x_bears, pu_ask, tE_bears h37]
      obtain ⟨σ2, z2, b1, b2, b3, b4, b5⟩ := x_add (σ := σ) (b := bearsT T 0) hw h (by omega)
      rw [b1, pu_call]
      refine ⟨σ2, z2, rfl, b2, b3, by omega, fun s => ?_⟩
      rw [b5 s, hb s, dif_n hw, bears_nd (u := nI (dif j s)) (v := 0) h0]
def frZ (σ σ' : mt_St) : Prop := ∀ c, c < 37 ∨ 41 < c ∨ c = 38 → σ' c = σ c
theorem frZ.tr {σ σ' σ'' : mt_St} (h : frZ σ σ') (h2 : frZ σ' σ'') : frZ σ σ'' := fun c a => (h2 c a).trans (h c a)
theorem frZ.row {σ : mt_St} {f : Nat → Int32} : frZ σ (mt_row σ 37 f) := fun c a => mt_row_n (by omega)
theorem wf_upS {a : AW} {y k : Nat} (hy : y ≤ 40000) (hk : k ≤ 200) (hw : wfA a y) : ∃ j, j < 4096 ∧ upA (yrs k a) = nI j := wf_upA (y := y + k) (by omega) (wf_yrs k (by omega) hw)
theorem x_strIn {a : AW} {y m t : Nat} {k15 : mt_St → Int32 → Int32 → Option (Unit × mt_St)} (hm : m ≤ 12) (hy : y ≤ 40000) (hw : wfA a y) (ht : t < nA a) : ∀ (d i fuel : Nat) (σ : mt_St) (sz : Nat), m = i + d → d < fuel → tE (σ 37) (lvZ a (a (4 + t)) i) → (∀ k, k < m → σ 38 k = upA (yrs k a)) → σ 1 0 = a 0 0 → σ 39 2 = nI sz → sz ≤ 24 * t + 2 * i → (∀ s, (Ez σ sz s ↔ (okA a m s t && okk a s t i) = true)) → ∃ σ' sz', bX5_foreseeStrains_33 5000 k15 fuel σ (nI m) (nI t) (nI i) = k15 σ' (nI m) (nI (t + 1)) ∧ frZ σ σ' ∧ σ' 39 2 = nI sz' ∧ sz' ≤ 24 * (t + 1) ∧ ∀ s, (Ez σ' sz' s ↔ okA a m s (t + 1) = true) := by
  have hn8 := hw.n8
  intro d
  induction d with
  | zero =>
    intro i fuel σ sz hd hf h37 h38 h10 h39 hsz hE
    obtain ⟨fuel, rfl⟩ : ∃ q, fuel = q + 1 := ⟨fuel - 1, by omega⟩
    have : i = m := by omega
    subst this
    unfold bX5_foreseeStrains_33
    rw [if_pos (nI_le (Nat.le_refl _) (by omega)), nI_1]
    exact ⟨σ, sz, rfl, fun _ _ => rfl, h39, by omega, hE⟩
  | succ d ih =>
    intro i fuel σ sz hd hf h37 h38 h10 h39 hsz hE
    obtain ⟨fuel, rfl⟩ : ∃ q, fuel = q + 1 := ⟨fuel - 1, by omega⟩
    obtain ⟨j, hj, ej⟩ := wf_upS (k := i) hy (by omega) hw
    have wl := lvZ_wf hw (hw.2.2.2.2.2.2.2 t ht) i
    obtain ⟨σ1, z1, a1, a2, a3, a4, a5⟩ := x_addOf (σ := σ) (j := j) wl h37 hj h39 (by omega)
    have c37 : σ1 37 = σ 37 := a2 37 (by decide) (by decide) (by decide)
    have c38 : σ1 38 = σ 38 := a2 38 (by decide) (by decide) (by decide)
    have c1 : σ1 1 = σ 1 := a2 1 (by decide) (by decide) (by decide)
    have fr1 : frZ σ (mt_row σ1 37 (liveT (σ1 37) 0 (a 0 0))) := fun c hc => by rw [mt_row_n (by omega)]; exact a2 c (by omega) (by omega) (by omega)
    obtain ⟨σ2, z2, b1, b2, b3, b4, b5⟩ := ih (i + 1) fuel (mt_row σ1 37 (liveT (σ1 37) 0 (a 0 0))) z1 (by omega) (by omega) (by rw [mt_row_s, c37]; exact tE_live h37 _ _) (fun k hk => by rw [mt_row_n (by decide), c38]; exact h38 k hk) (by rw [mt_row_n (by decide), c1]; exact h10) (by rw [mt_row_n (by decide)]; exact a3) (by omega) (fun s => by
      show (∀ j, j < z1 → pc (mt_row σ1 37 _ 40 j &&& (nI s ^^^ (-1 : Int32))) ≤ mt_row σ1 37 _ 41 j) ↔ (okA a m s t && (okk a s t i && decide (brk1 (lvZ a (a (4 + t)) i) (upA (yrs i a) &&& (nI s ^^^ (-1 : Int32))) = 0))) = true
      rw [mt_row_n (show 40 ≠ 37 by decide), mt_row_n (show 41 ≠ 37 by decide), ← Bool.and_assoc, Bool.and_eq_true, decide_eq_true_eq, ← hE s, ej]
      exact a5 s)
    refine ⟨σ2, z2, ?_, fr1.tr b2, b3, b4, b5⟩
    unfold bX5_foreseeStrains_33
    rw [if_neg (nI_ge (by omega) (by omega)), pu_chkP (pu_in (by omega) (by decide)), nI_clamp (by omega), h38 i (by omega), ej, a1, pu_call, c1, h10, x_live, pu_call, nI_1]
    exact b1
theorem x_strOut {a : AW} {y m : Nat} (hm : m ≤ 12) (hy : y ≤ 40000) (hw : wfA a y) : ∀ (d t fuel : Nat) (σ : mt_St) (sz : Nat), nA a = t + d → d < fuel → SX a σ 1 → (∀ k, k < m → σ 38 k = upA (yrs k a)) → σ 39 2 = nI sz → sz ≤ 24 * t → (∀ s, (Ez σ sz s ↔ okA a m s t = true)) → ∃ σ' sz', bX5_foreseeStrains_15 5000 fuel σ (nI m) (nI t) = some ((), σ') ∧ frZ σ σ' ∧ σ' 39 2 = nI sz' ∧ sz' ≤ 192 ∧ ∀ s, (Ez σ' sz' s ↔ okA a m s (nA a) = true) := by
  have hn8 := hw.n8
  intro d
  induction d with
  | zero =>
    intro t fuel σ sz hd hf h h38 h39 hsz hE
    obtain ⟨fuel, rfl⟩ : ∃ q, fuel = q + 1 := ⟨fuel - 1, by omega⟩
    have : t = nA a := by omega
    subst this
    unfold bX5_foreseeStrains_15
    rw [h.n hw, if_pos (nI_le (Nat.le_refl _) (by omega))]
    exact ⟨σ, sz, rfl, fun _ _ => rfl, h39, by omega, hE⟩
  | succ d ih =>
    intro t fuel σ sz hd hf h h38 h39 hsz hE
    obtain ⟨fuel, rfl⟩ : ∃ q, fuel = q + 1 := ⟨fuel - 1, by omega⟩
    have ht : t < nA a := by omega
    obtain ⟨g, g1, g2⟩ := x_try hw h ht
    obtain ⟨σ1, z1, a1, a2, a3, a4, a5⟩ := x_strIn (k15 := fun s0 x1 x2 => bX5_foreseeStrains_15 5000 fuel s0 x1 x2) hm hy hw ht m 0 5000 (mt_row σ 37 g) sz (by omega) (by omega) (by rw [mt_row_s]; exact g2) (fun k hk => by rw [mt_row_n (by decide)]; exact h38 k hk) (by rw [mt_row_n (by decide)]; exact h.1.1) (by rw [mt_row_n (by decide)]; exact h39) (by omega) (fun s => by
      show (∀ j, j < sz → pc (mt_row σ 37 g 40 j &&& (nI s ^^^ (-1 : Int32))) ≤ mt_row σ 37 g 41 j) ↔ (okA a m s t && true) = true
      rw [mt_row_n (show 40 ≠ 37 by decide), mt_row_n (show 41 ≠ 37 by decide), Bool.and_true]
      exact hE s)
    have fr1 : frZ σ σ1 := frZ.row.tr a2
    obtain ⟨σ2, z2, b1, b2, b3, b4, b5⟩ := ih (t + 1) fuel σ1 z1 (by omega) (by omega) (h.same hn8 (fun c p q => fr1 c (by omega))) (fun k hk => by rw [fr1 38 (by omega)]; exact h38 k hk) a3 a4 a5
    refine ⟨σ2, z2, ?_, fr1.tr b2, b3, b4, b5⟩
    unfold bX5_foreseeStrains_15
    rw [h.n hw, if_neg (nI_ge (by omega) (by omega)), g1, pu_call]
    exact a1.trans b1
theorem x_strains {a : AW} {y m : Nat} {σ : mt_St} (hm : m ≤ 12) (hy : y ≤ 40000) (hw : wfA a y) (h : SX a σ 1) : ∃ σ' sz', fX5_foreseeStrains 5000 σ (nI m) = some ((), σ') ∧ (∀ c, c < 37 ∨ 41 < c → σ' c = σ c) ∧ σ' 39 2 = nI sz' ∧ sz' ≤ 192 ∧ ∀ s, (Ez σ' sz' s ↔ okA a m s (nA a) = true) := by
  have hn8 := hw.n8
  have s1 : SX a (mt_up σ 39 2 0) 1 := h.same hn8 (fun c p q => by rw [pu_up, mt_row_n (by omega)])
  obtain ⟨f, e1, u1⟩ := x_fore (m := m) (by omega) hy hw s1
  have s2 : SX a (mt_row (mt_up σ 39 2 0) 38 f) 1 := s1.same hn8 (fun c p q => mt_row_n (by omega))
  obtain ⟨σ', sz', b1, b2, b3, b4, b5⟩ := x_strOut hm hy hw (nA a) 0 5000 (mt_row (mt_up σ 39 2 0) 38 f) 0 (by omega) (by omega) s2 (fun k hk => by rw [mt_row_s]; exact u1 k hk) (by rw [mt_row_n (by decide), pu_up, mt_row_s, pu_upd_s]; rfl) (by omega) (fun s => ⟨fun _ => rfl, fun _ j hj => by omega⟩)
  refine ⟨σ', sz', ?_, fun c hc => ?_, b3, b4, b5⟩
  · unfold fX5_foreseeStrains
    rw [pu_bnd, e1, pu_call]
    exact b1
  · rw [b2 c (by omega), mt_row_n (by omega), pu_up, mt_row_n (by omega)]
theorem x_eased {σ : mt_St} {sz s : Nat} (h : σ 39 2 = nI sz) (hsz : sz ≤ 192) : ∃ b, fX2_areEasedBy 5000 σ (nI s) = some (bN b) ∧ (b = true ↔ Ez σ sz s) := by
  have lp : ∀ (d i fuel : Nat), sz = i + d → d < fuel → (∀ j, j < i → pc (σ 40 j &&& (nI s ^^^ (-1 : Int32))) ≤ σ 41 j) → ∃ b, bX2_areEasedBy_2 5000 σ fuel (nI s) (nI i) = some (bN b) ∧ (b = true ↔ Ez σ sz s) := by
    intro d
    induction d with
    | zero =>
      intro i fuel hd hf hz
      obtain ⟨fuel, rfl⟩ : ∃ q, fuel = q + 1 := ⟨fuel - 1, by omega⟩
      have : i = sz := by omega
      subst this
      unfold bX2_areEasedBy_2
      rw [h, if_pos (nI_le (Nat.le_refl _) (by omega))]
      exact ⟨true, rfl, fun _ => hz, fun _ => rfl⟩
    | succ d ih =>
      intro i fuel hd hf hz
      obtain ⟨fuel, rfl⟩ : ∃ q, fuel = q + 1 := ⟨fuel - 1, by omega⟩
      unfold bX2_areEasedBy_2
      rw [h, if_neg (nI_ge (by omega) (by omega)), pu_chkP (pu_in (by omega) (by decide)), pc_x, pu_ask, pu_chkP (pu_in (by omega) (by decide)), nI_clamp (by omega), nI_1]
      by_cases q : pc (σ 40 i &&& (nI s ^^^ (-1 : Int32))) ≤ σ 41 i
      · rw [if_pos q]
        exact ih (i + 1) fuel (by omega) (by omega) (fun j hj => by
          by_cases z : j = i
          · rw [z]; exact q
          · exact hz j (by omega))
      · rw [if_neg q]
        exact ⟨false, rfl, fun e => absurd e (by decide), fun e => absurd (e i (by omega)) q⟩
  unfold fX2_areEasedBy
  exact lp sz 0 5000 (by omega) (by omega) (fun j hj => by omega)
theorem x_lullLoop {σ : mt_St} {Q : Nat → Bool} (hQ : ∀ s, s < 4096 → fX2_areEasedBy 5000 σ (nI s) = some (bN (Q s))) : ∀ (d i fuel : Nat) (o : Option Nat), 4096 = i + d → d < fuel → isB Q cnt 0 i o → ∃ o', isB Q cnt 0 4096 o' ∧ (∀ k, o' = some k → bX5_lull_28 5000 fuel σ (eO o) (eC cnt 13 o) (nI i) = some (nI k, σ)) ∧ (o' = none → bX5_lull_28 5000 fuel σ (eO o) (eC cnt 13 o) (nI i) = some (-1000001 - nI 3, x_fs σ 3)) := by
  intro d
  induction d with
  | zero =>
    intro i fuel o hd hf h
    obtain ⟨fuel, rfl⟩ : ∃ q, fuel = q + 1 := ⟨fuel - 1, by omega⟩
    have : i = 4096 := by omega
    subst this
    refine ⟨o, h, fun k hk => ?_, fun hk => ?_⟩
    · subst hk
      have hk := isB_lt h
      unfold bX5_lull_28 bX5_lull_86
      rw [if_pos (show (4095 : Int32) < nI 4096 by decide), show eO (some k) = nI k from rfl, if_pos (show (0 : Int32) ≤ nI k from nI_le (a := 0) (by omega) (by omega))]
    · subst hk
      unfold bX5_lull_28 bX5_lull_86
      rw [if_pos (show (4095 : Int32) < nI 4096 by decide), show eO none = -1 from rfl, if_neg (by decide), x_find3, pu_call]
  | succ d ih =>
    intro i fuel o hd hf h
    obtain ⟨fuel, rfl⟩ : ∃ q, fuel = q + 1 := ⟨fuel - 1, by omega⟩
    obtain ⟨o', h1, h2⟩ := ih (i + 1) fuel (stA Q cnt i o) (by omega) (by omega) (isB_A h)
    have c1 := cnt_12 i
    have stp : bX5_lull_28 5000 (fuel + 1) σ (eO o) (eC cnt 13 o) (nI i) = bX5_lull_28 5000 fuel σ (eO (stA Q cnt i o)) (eC cnt 13 (stA Q cnt i o)) (nI (i + 1)) := by
      conv => lhs; unfold bX5_lull_28 bX5_lull_67
      rw [if_neg (show ¬ (4095 : Int32) < nI i from nI_nlt (a := 4095) (by omega) (by decide)), pc_x, pu_ask, pc_cnt i (by omega), hQ i (by omega), pu_ask, nI_1]
      cases o with
      | none =>
        rw [show eC cnt 13 none = nI 13 from rfl, if_neg (nI_ge (by omega) (by decide))]
        cases q : Q i
        · rw [stA_n0 q, bN_f, if_pos rfl]; rfl
        · rw [stA_n1 q, bN_t, if_neg i10']; rfl
      | some k =>
        have c2 := cnt_12 k
        rw [show eC cnt 13 (some k) = nI (cnt k) from rfl]
        by_cases w : cnt k ≤ cnt i
        · rw [if_pos (nI_le w (by omega)), stA_k w]; rfl
        · rw [if_neg (nI_ge (by omega) (by omega))]
          cases q : Q i
          · rw [stA_s0 q, bN_f, if_pos rfl]; rfl
          · rw [stA_s1 w q, bN_t, if_neg i10']; rfl
    refine ⟨o', h1, ?_⟩
    rw [stp]
    exact h2
theorem quiet_fr {σ σ' : mt_St} (h : ∀ c, c < 25 ∨ 43 < c → σ' c = σ c) : quiet σ σ' := ⟨fun c a _ _ _ _ _ => h c (by omega), by rw [h 44 (by omega)], by rw [h 56 (by omega)], by rw [h 56 (by omega)], fun k _ => by rw [h 57 (by omega)]⟩
theorem e_lull {σ : mt_St} {y : Nat} (hy : y ≤ 40000) (h : RR σ y) (u : Int32) : EV (fun s => fX5_lull 5000 s u) (fun s => fX6_lull 5000 s u) σ y := by
  obtain ⟨⟨a, ha⟩, -⟩ := id h
  have hn8 := ha.1.n8
  cases h1 : okR u 12
  · refine EV.find (w := 0) (by decide) h ?_ ?_
    · simp only [fX5_lull, x_win, h1, x_find0, pu_ask, pu_call, pu_bnd, pu_chk, pu_b0, pu_b1, bN_t, bN_f, bN_c, i10, i00, if_true, if_false]
    · simp only [fX6_lull, m_win, h1, m_find0, pu_ask, pu_call, pu_bnd, pu_chk, pu_b0, pu_b1, bN_t, bN_f, bN_c, i10, i00, if_true, if_false]
  obtain ⟨m, hm, rfl⟩ := okR_nI (m := 12) (by decide) h1
  obtain ⟨σ1, sz, a1, a2, a3, a4, a5⟩ := x_strains hm hy ha.1 ha.2.1
  have hQ : ∀ s, s < 4096 → fX2_areEasedBy 5000 σ1 (nI s) = some (bN (okA a m s (nA a))) := fun s hs => by
    obtain ⟨b, b1, b2⟩ := x_eased (s := s) a3 a4
    have : b = okA a m s (nA a) := by rw [Bool.eq_iff_iff, b2, a5 s]
    rw [b1, this]
  obtain ⟨o, o1, o2, o3⟩ := x_lullLoop (Q := fun s => okA a m s (nA a)) hQ 4096 0 5000 none (by omega) (by omega) isB_0
  have ex : fX5_lull 5000 σ (nI m) = bX5_lull_28 5000 5000 σ1 (eO none) (eC cnt 13 none) (nI 0) := by
    unfold fX5_lull
    rw [x_win, pu_ask, h1, bN_t, if_neg i10', a1, pu_call]
    rfl
  have q1 : quiet σ σ1 := quiet_fr (fun c hc => a2 c (by omega))
  refine ev_best (o := o) h (σ1 := σ1) q1 (fun k hk => by subst hk; have := isB_lt o1; omega) ⟨fun k hk => ?_, fun hk => ?_⟩ (fun s hs => ?_)
  · show fX5_lull 5000 σ (nI m) = _
    rw [ex]; exact o2 k hk
  · show fX5_lull 5000 σ (nI m) = _
    rw [ex]; exact o3 hk
  · have s57 : s 57 = σ 57 := by
      rcases hs with rfl | rfl
      · exact a2 57 (by omega)
      · rw [x_fs_n (by decide)]; exact a2 57 (by omega)
    obtain ⟨o', s', g1, g2, g3⟩ := m_lullLoop (a := a) (m := m) (Q := fun s => okA a m s (nA a)) ha.1 (fun z hz τ hτ => by
      have := m_isLulled (m := m) hm hy hz ha.1 hτ
      rw [lul_eq hy hz hm ha.1] at this
      exact this) 4096 5000 s none (by omega) (by omega) (by rw [s57]; exact ha.2.2) isB_0
    refine ⟨s', g3.quiet, ?_⟩
    rw [isB_uniq o1 g1, ← g2]
    show fX6_lull 5000 s (nI m) = _
    unfold fX6_lull
    rw [m_win, pu_ask, h1, bN_t, if_neg i10']
    rfl
