/-! sets, counts, limits -/
theorem ps_lt {x : Int32} (h : ps_S x) : ∃ j : Nat, j < 4096 ∧ x = nI j := h
theorem ps_and {x y : Int32} (h : ps_S x) : ps_S (x &&& y) := by
  obtain ⟨j, hj, rfl⟩ := h
  obtain ⟨k, hk, rfl⟩ : ∃ k, k < 2 ^ 32 ∧ y = nI k := ⟨y.toBitVec.toNat, y.toBitVec.isLt, by
    apply Int32.toBitVec_inj.mp
    apply BitVec.eq_of_toNat_eq
    rw [pk_tn y.toBitVec.isLt]⟩
  refine ⟨j &&& k, Nat.lt_of_le_of_lt Nat.and_le_left hj, ?_⟩
  apply Int32.toBitVec_inj.mp
  apply BitVec.eq_of_toNat_eq
  rw [Int32.toBitVec_and, BitVec.toNat_and, pk_tn (by omega), pk_tn hk, pk_tn (Nat.lt_of_le_of_lt Nat.and_le_left (by omega))]
theorem ps_xor {x y : Int32} (h : ps_S x) (h2 : ps_S y) : ps_S (x ^^^ y) := by
  obtain ⟨j, hj, rfl⟩ := h
  obtain ⟨k, hk, rfl⟩ := h2
  have hx : j ^^^ k < 2 ^ 12 := Nat.xor_lt_two_pow hj hk
  refine ⟨j ^^^ k, hx, ?_⟩
  apply Int32.toBitVec_inj.mp
  apply BitVec.eq_of_toNat_eq
  rw [Int32.toBitVec_xor, BitVec.toNat_xor, pk_tn (by omega), pk_tn (by omega), pk_tn (by omega)]
theorem ps_bit : ∀ e : Nat, e < 12 → (1 : Int32) <<< (nI e &&& 31) = nI (2 ^ e) := by decide +kernel
theorem ps_tog {u : Int32} {e : Nat} (h : ps_S u) : ps_S (tog u (nI e)) ∨ ¬ e ≤ 12 := by
  by_cases h12 : e ≤ 12
  · left
    unfold tog
    split
    · exact h
    · have he : e < 12 := by
        rcases Nat.lt_or_ge e 12 with q | q
        · exact q
        · rename_i hn
          exact absurd (nI_le (a := 12) q (by omega)) hn
      rw [ps_bit e he]
      exact ps_xor h ⟨2 ^ e, Nat.lt_of_lt_of_le (Nat.pow_lt_pow_right (by decide) he) (by decide), rfl⟩
  · exact Or.inr h12
theorem all4096 {p : Nat → Prop} (h : ∀ a, a < 64 → ∀ b, b < 64 → p (64 * a + b)) : ∀ j, j < 4096 → p j := by
  intro j hj
  have e : 64 * (j / 64) + j % 64 = j := Nat.div_add_mod j 64
  rw [← e]
  exact h _ (by omega) _ (Nat.mod_lt _ (by decide))
theorem pc_le : ∀ j : Nat, j < 4096 → ∃ q : Nat, q ≤ 12 ∧ pc (nI j) = nI q := by
  have h : ∀ j : Nat, j < 4096 → 0 ≤ pc (nI j) ∧ pc (nI j) ≤ 12 := all4096 (by decide +kernel)
  intro j hj
  obtain ⟨h0, h1⟩ := h j hj
  exact nI_of2 (M := 12) rfl (by rw [Int32.not_lt]; exact h0) h1
theorem ps_pc {x : Int32} (h : ps_S x) : ∃ q : Nat, q ≤ 12 ∧ pc x = nI q := by
  obtain ⟨j, hj, rfl⟩ := h
  exact pc_le j hj
theorem wfT_yields {T : Nat → Int32} (h : ps_S (T 3)) : ∃ q : Nat, q ≤ 30 ∧ yieldsT T = nI q := by
  obtain ⟨q, hq, e⟩ := ps_pc h
  unfold yieldsT
  rw [e]
  repeat' split
  · exact ⟨2, by omega, rfl⟩
  · exact ⟨1, by omega, rfl⟩
  · exact ⟨1 + q, by omega, nI_add 1 q⟩
  · exact ⟨3 + q, by omega, nI_add 3 q⟩
  · exact ⟨2 * (3 + q), by omega, by rw [show (3 : Int32) = nI 3 from rfl, nI_add]; exact pk_mul 2 (3 + q)⟩
  · exact ⟨0, by omega, rfl⟩
  · exact ⟨0, by omega, rfl⟩
  · exact ⟨1, by omega, rfl⟩
theorem wfT_gain {T : Nat → Int32} (h : ps_S (T 3)) (up : Int32) : ∃ q : Nat, q ≤ 30 ∧ gainT T up = nI q := by
  unfold gainT
  split
  · exact ⟨0, by omega, rfl⟩
  · split
    · exact wfT_yields h
    · exact ⟨0, by omega, rfl⟩
theorem pu_min1 {x : Int32} {m : Nat} (h : ∃ j, j ≤ m ∧ x = nI j) (hm : m < 2 ^ 30) : ∃ j, j ≤ m ∧ mt_min (x + 1) (nI m) = nI j := by
  obtain ⟨j, hj, rfl⟩ := h
  rw [nI_1, pu_min (j + 1) m (by omega) (by omega)]
  exact ⟨_, Nat.min_le_right _ _, rfl⟩
theorem wfT_await {T : Nat → Int32} {yard : Int32} (h : wfT T) (hy : ps_S yard) : wfT (awaitT T yard) := by
  obtain ⟨h0, h1, h2, hne, h3, h4, h5, h6, h7⟩ := h
  have h6' := pu_min1 h6 (by decide)
  unfold awaitT
  split
  · exact ⟨h0, h1, h2, hne, h3, h4, h5, h6', h7⟩
  · split
    · exact ⟨h0, h1, h2, hne, h3, h4, h5, h6', h7⟩
    · exact ⟨h0, h1, h2, hne, hy, Or.inr rfl, ⟨0, by omega, rfl⟩, ⟨0, by omega, rfl⟩, h7⟩
theorem wfT_fade {T : Nat → Int32} (h : wfT T) : wfT (fadeT T) := by
  obtain ⟨h0, h1, h2, hne, h3, h4, h5, h6, h7⟩ := h
  unfold fadeT
  split
  · exact ⟨h0, h1, h2, hne, h3, h4, h5, h6, h7⟩
  · split
    · exact ⟨h0, h1, h2, hne, ps_and h3, h4, h5, h6, h7⟩
    · exact ⟨h0, h1, h2, hne, h3, h4, h5, h6, h7⟩
theorem wfT_live {T : Nat → Int32} {yard : Int32} (h : wfT T) (up : Int32) (hy : ps_S yard) : wfT (liveT T up yard) := by
  unfold liveT
  split
  · exact wfT_await h hy
  · obtain ⟨h0, h1, h2, hne, h3, h4, h5, h6, h7⟩ := h
    split
    · exact wfT_fade ⟨h0, h1, h2, hne, h3, h4, pu_min1 h5 (by decide), h6, h7⟩
    · exact ⟨h0, h1, h2, hne, h3, Or.inl rfl, ⟨0, by omega, rfl⟩, ⟨0, by omega, rfl⟩, pu_min1 h7 (by decide)⟩
theorem wf_gold {a : AW} {up : Int32} (hg : ∃ g, g ≤ 99999 ∧ a 0 3 = nI g) : ∀ t, (∀ s, s < t → ps_S (a (4 + s) 3)) → ∃ g, g ≤ 99999 ∧ goldF a up t = nI g := by
  intro t
  induction t with
  | zero => intro _; exact hg
  | succ t ih =>
    intro h
    obtain ⟨g, hg9, e⟩ := ih (fun s hs => h s (by omega))
    obtain ⟨q, hq, e2⟩ := wfT_gain (h t (Nat.lt_succ_self t)) up
    unfold goldF
    rw [e, e2, nI_add, show (99999 : Int32) = nI 99999 from rfl, pu_min (g + q) 99999 (by omega) (by decide)]
    exact ⟨_, Nat.min_le_right _ _, rfl⟩
theorem evA_le {a : AW} {y : Nat} (hy : y < 2 ^ 30) (h : wfA a y) : ∃ e, e ≤ 12 ∧ evA a = nI e := by
  obtain ⟨z, hz, ez⟩ := h.2.2.2.2.1
  unfold evA
  rw [ez, pu_y6 (by omega), nI_clamp (by omega)]
  exact h.2.2.2.2.2.1 _ (Nat.mod_lt _ (by decide))
theorem wf_upA {a : AW} {y : Nat} (hy : y < 2 ^ 30) (h : wfA a y) : ps_S (upA a) := by
  obtain ⟨e, he, ee⟩ := evA_le hy h
  unfold upA
  rw [ee]
  rcases ps_tog (e := e) h.2.2.1 with q | q
  · exact q
  · exact absurd he q
theorem wf_pass {a : AW} {y : Nat} (hy : y < 2 ^ 30) (h : wfA a y) : wfA (passA a) (y + 1) := by
  have hu := wf_upA hy h
  obtain ⟨hn, h0, h1, hg, ⟨z, hz, ez⟩, hl, hs, ht⟩ := h
  refine ⟨?_, ?_, ?_, ?_, ?_, ?_, ?_, ?_⟩
  · rw [passA_0]; exact hn
  · rw [passA_0]; exact h0
  · rw [passA_0]; exact hu
  · rw [passA_0]
    exact wf_gold hg (nA a) (fun s hs => (ht s hs).2.2.2.2.1)
  · rw [passA_0]
    exact ⟨z + 1, by omega, by show a 0 4 + 1 = _; rw [ez, nI_1]⟩
  · rw [passA_1]; exact hl
  · rw [passA_3, nA_passA]; exact hs
  · intro t htn
    rw [nA_passA] at htn
    rw [passA_t a htn]
    exact wfT_live (ht t htn) _ h0
/-- n years -/
def yrs : Nat → AW → AW
  | 0, a => a
  | n + 1, a => passA (yrs n a)
theorem yrs_succ (n : Nat) (a : AW) : yrs (n + 1) a = yrs n (passA a) := by
  induction n with
  | zero => rfl
  | succ n ih => show passA (yrs (n + 1) a) = passA (yrs n (passA a)); rw [ih]
theorem nA_yrs (n : Nat) (a : AW) : nA (yrs n a) = nA a := by
  induction n with
  | zero => rfl
  | succ n ih => show nA (passA (yrs n a)) = _; rw [nA_passA, ih]
theorem wf_yrs {a : AW} {y : Nat} (n : Nat) (hy : y + n < 2 ^ 30) (h : wfA a y) : wfA (yrs n a) (y + n) := by
  induction n with
  | zero => exact h
  | succ n ih => exact wf_pass (y := y + n) (by omega) (ih (by omega))
theorem x_yearsLoop {fu w y m : Nat} {a : AW} (hfu : 10 < fu) (hm : m < 2 ^ 30) (hy : y + m ≤ 99999) (hw : wfA a y) : ∀ (d i fuel : Nat) (σ : mt_St), m = i + d → d < fuel → SX (yrs i a) σ w → ∃ σ', bX4_passYears_2 fu w fuel σ (nI m) (nI i) = some ((), σ') ∧ SX (yrs m a) σ' w ∧ frW w σ σ' := by
  intro d
  induction d with
  | zero =>
    intro i fuel σ hd hf h
    obtain ⟨fuel, rfl⟩ : ∃ q, fuel = q + 1 := ⟨fuel - 1, by omega⟩
    have : i = m := by omega
    subst this
    unfold bX4_passYears_2
    rw [if_pos (nI_le (Nat.le_refl _) (by omega))]
    exact ⟨σ, rfl, h, frW.rf⟩
  | succ d ih =>
    intro i fuel σ hd hf h
    obtain ⟨fuel, rfl⟩ : ∃ q, fuel = q + 1 := ⟨fuel - 1, by omega⟩
    unfold bX4_passYears_2
    obtain ⟨σ1, h1, h2, h3⟩ := x_pass hfu (y := y + i) (by omega) (wf_yrs i (by omega) hw) h
    rw [if_neg (nI_ge (by omega) (by omega)), h1, pu_call, nI_1]
    obtain ⟨σ', h4, h5, h6⟩ := ih (i + 1) fuel σ1 (by omega) (by omega) h2
    exact ⟨σ', h4, h5, h3.tr h6⟩
theorem x_years {fu w y m : Nat} {a : AW} {σ : mt_St} (hfu : 10 < fu) (hmf : m < fu) (hm : m < 2 ^ 30) (hy : y + m ≤ 99999) (hw : wfA a y) (h : SX a σ w) : ∃ σ', fX4_passYears fu σ w (nI m) = some ((), σ') ∧ SX (yrs m a) σ' w ∧ frW w σ σ' := by
  unfold fX4_passYears
  exact x_yearsLoop hfu hm hy hw m 0 fu σ (by omega) hmf h
