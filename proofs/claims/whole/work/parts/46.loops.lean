/-! loops over the treaties -/
theorem SX.n {a : AW} {σ : mt_St} {w y : Nat} (h : SX a σ w) (hw : wfA a y) : σ w 7 = nI (nA a) := h.1.2.2.2.2.2.trans hw.n.2
theorem SM.n {a : AW} {r : Nat → Int32} {y : Nat} (h : SM a r) (hw : wfA a y) : r 1 = nI (nA a) := h.1.2.2.2.2.2.trans hw.n.2
theorem SM.T {a : AW} {σ : mt_St} {t : Nat} (h : SM a (σ 57)) (ht : t < nA a) : tE (gT (σ 57) t) (a (4 + t)) := h.2.2.2 t ht
theorem SM.p3 {a : AW} {σ : mt_St} {t y : Nat} (h : SM a (σ 57)) (hw : wfA a y) (ht : t < nA a) : ps_S (gT (σ 57) t 3) := by rw [h.T ht 3 (by decide)]; exact (hw.2.2.2.2.2.2.2 t ht).2.2.2.2.1
def frcF (a : AW) : Nat → Int32
  | 0 => 0
  | t + 1 => frcF a t ||| (a (4 + t) 4 <<< (nI t &&& 31))
def forceA (a : AW) : Int32 := frcF a (nA a)
def brkB (a : AW) (up : Int32) : Nat → Int32
  | 0 => 0
  | t + 1 => if a (4 + t) 4 = 1 then (if pc (a (4 + t) 3 &&& up) ≤ bearsT (a (4 + t)) up then brkB a up t else brkB a up t ||| ((1 : Int32) <<< (nI t &&& 31))) else brkB a up t
def mrkF (a : AW) : Nat → Int32
  | 0 => 0
  | t + 1 => if a (4 + t) 4 = 1 then mrkF a t ||| a (4 + t) 3 else mrkF a t
theorem brkB_s (a : AW) (up : Int32) (t : Nat) : brkB a up (t + 1) = if a (4 + t) 4 = 1 then (if pc (a (4 + t) 3 &&& up) ≤ bearsT (a (4 + t)) up then brkB a up t else brkB a up t ||| ((1 : Int32) <<< (nI t &&& 31))) else brkB a up t := rfl
theorem mrkF_s (a : AW) (t : Nat) : mrkF a (t + 1) = if a (4 + t) 4 = 1 then mrkF a t ||| a (4 + t) 3 else mrkF a t := rfl
theorem pu_or0 (x : Int32) : x ||| 0 = x := by
  apply Int32.toBitVec_inj.mp
  rw [Int32.toBitVec_or]
  exact BitVec.or_zero
theorem x_inForce {w y : Nat} {a : AW} {σ : mt_St} (hw : wfA a y) (h : SX a σ w) : fX4_inForce 5000 σ w = some (frcF a (nA a)) := by
  have hn8 := hw.n8
  have hn := h.n hw
  have lp : ∀ (d i fuel : Nat), nA a = i + d → d < fuel → bX4_inForce_4 5000 w σ fuel (frcF a i) (nI i) = some (frcF a (nA a)) := by
    intro d
    induction d with
    | zero =>
      intro i fuel hd hf
      obtain ⟨fuel, rfl⟩ : ∃ q, fuel = q + 1 := ⟨fuel - 1, by omega⟩
      have : i = nA a := by omega
      subst this
      unfold bX4_inForce_4
      rw [hn, if_pos (nI_le (Nat.le_refl _) (by omega))]
    | succ d ih =>
      intro i fuel hd hf
      obtain ⟨fuel, rfl⟩ : ∃ q, fuel = q + 1 := ⟨fuel - 1, by omega⟩
      have ht := h.2.2.2 i (by omega)
      have := ih (i + 1) fuel (by omega) (by omega)
      unfold bX4_inForce_4
      rw [hn, if_neg (nI_ge (by omega) (by omega)), pu_chkP (pu_in (by omega) (by decide)), nI_clamp (by omega), show w + 2 + 2 + i = w + 4 + i by omega]
      rw [ht 4 (by decide), nI_1]
      exact this
  unfold fX4_inForce
  exact lp (nA a) 0 5000 (by omega) (by omega)
theorem m_inForce {y : Nat} {a : AW} {σ : mt_St} (hw : wfA a y) (h : SM a (σ 57)) : fX6_inForce 5000 σ = some (frcF a (nA a)) := by
  have hn8 := hw.n8
  have hn : σ 57 1 = nI (nA a) := h.n hw
  have lp : ∀ (d i fuel : Nat), nA a = i + d → d < fuel → bX6_inForce_4 5000 σ fuel (frcF a i) (nI i) = some (frcF a (nA a)) := by
    intro d
    induction d with
    | zero =>
      intro i fuel hd hf
      obtain ⟨fuel, rfl⟩ : ∃ q, fuel = q + 1 := ⟨fuel - 1, by omega⟩
      have : i = nA a := by omega
      subst this
      unfold bX6_inForce_4
      rw [hn, if_pos (nI_le (Nat.le_refl _) (by omega))]
    | succ d ih =>
      intro i fuel hd hf
      obtain ⟨fuel, rfl⟩ : ∃ q, fuel = q + 1 := ⟨fuel - 1, by omega⟩
      have ht := h.T (show i < nA a by omega)
      have h8 : i < 8 := by omega
      have hp3 := h.p3 hw (show i < nA a by omega)
      have := ih (i + 1) fuel (by omega) (by omega)
      unfold bX6_inForce_4
      rw [hn, if_neg (nI_ge (by omega) (by omega))]
      rw [m_is4 5000 σ h8, pu_ask, ht 4 (by decide), nI_1]
      exact this
  unfold fX6_inForce
  exact lp (nA a) 0 5000 (by omega) (by omega)
theorem x_allBroken {w y : Nat} {a : AW} {σ : mt_St} (hw : wfA a y) (h : SX a σ w) : fX4_allBroken 5000 σ w = some (sumF (fun t => a (4 + t) 7) (nA a)) := by
  have hn8 := hw.n8
  have hn := h.n hw
  have lp : ∀ (d i fuel : Nat), nA a = i + d → d < fuel → bX4_allBroken_4 5000 w σ fuel (sumF (fun t => a (4 + t) 7) i) (nI i) = some (sumF (fun t => a (4 + t) 7) (nA a)) := by
    intro d
    induction d with
    | zero =>
      intro i fuel hd hf
      obtain ⟨fuel, rfl⟩ : ∃ q, fuel = q + 1 := ⟨fuel - 1, by omega⟩
      have : i = nA a := by omega
      subst this
      unfold bX4_allBroken_4
      rw [hn, if_pos (nI_le (Nat.le_refl _) (by omega))]
    | succ d ih =>
      intro i fuel hd hf
      obtain ⟨fuel, rfl⟩ : ∃ q, fuel = q + 1 := ⟨fuel - 1, by omega⟩
      have ht := h.2.2.2 i (by omega)
      have := ih (i + 1) fuel (by omega) (by omega)
      unfold bX4_allBroken_4
      rw [hn, if_neg (nI_ge (by omega) (by omega)), pu_chkP (pu_in (by omega) (by decide)), nI_clamp (by omega), show w + 2 + 2 + i = w + 4 + i by omega]
      rw [ht 7 (by decide), nI_1]
      exact this
  unfold fX4_allBroken
  exact lp (nA a) 0 5000 (by omega) (by omega)
theorem m_sum7 {y : Nat} {a : AW} {σ : mt_St} (hw : wfA a y) (h : SM a (σ 57)) : fX6_sumOf 5000 σ 7 = some (sumF (fun t => a (4 + t) 7) (nA a)) := by
  have hn8 := hw.n8
  have hn : σ 57 1 = nI (nA a) := h.n hw
  have lp : ∀ (d i fuel : Nat), nA a = i + d → d < fuel → bX6_sumOf_4 5000 σ fuel 7 (sumF (fun t => a (4 + t) 7) i) (nI i) = some (sumF (fun t => a (4 + t) 7) (nA a)) := by
    intro d
    induction d with
    | zero =>
      intro i fuel hd hf
      obtain ⟨fuel, rfl⟩ : ∃ q, fuel = q + 1 := ⟨fuel - 1, by omega⟩
      have : i = nA a := by omega
      subst this
      unfold bX6_sumOf_4
      rw [hn, if_pos (nI_le (Nat.le_refl _) (by omega))]
    | succ d ih =>
      intro i fuel hd hf
      obtain ⟨fuel, rfl⟩ : ∃ q, fuel = q + 1 := ⟨fuel - 1, by omega⟩
      have ht := h.T (show i < nA a by omega)
      have h8 : i < 8 := by omega
      have hp3 := h.p3 hw (show i < nA a by omega)
      have := ih (i + 1) fuel (by omega) (by omega)
      unfold bX6_sumOf_4
      rw [hn, if_neg (nI_ge (by omega) (by omega))]
      rw [m_is7 5000 σ h8, pu_ask, ht 7 (by decide), nI_1]
      exact this
  unfold fX6_sumOf
  exact lp (nA a) 0 5000 (by omega) (by omega)
theorem m_sum4 {y : Nat} {a : AW} {σ : mt_St} (hw : wfA a y) (h : SM a (σ 57)) : fX6_sumOf 5000 σ 4 = some (sumF (fun t => a (4 + t) 4) (nA a)) := by
  have hn8 := hw.n8
  have hn : σ 57 1 = nI (nA a) := h.n hw
  have lp : ∀ (d i fuel : Nat), nA a = i + d → d < fuel → bX6_sumOf_4 5000 σ fuel 4 (sumF (fun t => a (4 + t) 4) i) (nI i) = some (sumF (fun t => a (4 + t) 4) (nA a)) := by
    intro d
    induction d with
    | zero =>
      intro i fuel hd hf
      obtain ⟨fuel, rfl⟩ : ∃ q, fuel = q + 1 := ⟨fuel - 1, by omega⟩
      have : i = nA a := by omega
      subst this
      unfold bX6_sumOf_4
      rw [hn, if_pos (nI_le (Nat.le_refl _) (by omega))]
    | succ d ih =>
      intro i fuel hd hf
      obtain ⟨fuel, rfl⟩ : ∃ q, fuel = q + 1 := ⟨fuel - 1, by omega⟩
      have ht := h.T (show i < nA a by omega)
      have h8 : i < 8 := by omega
      have hp3 := h.p3 hw (show i < nA a by omega)
      have := ih (i + 1) fuel (by omega) (by omega)
      unfold bX6_sumOf_4
      rw [hn, if_neg (nI_ge (by omega) (by omega))]
      rw [m_is4 5000 σ h8, pu_ask, ht 4 (by decide), nI_1]
      exact this
  unfold fX6_sumOf
  exact lp (nA a) 0 5000 (by omega) (by omega)
theorem x_breaking {w y : Nat} {a : AW} {σ : mt_St} (hw : wfA a y) (h : SX a σ w) : fX4_breaking 5000 σ w = some (brkB a (a 0 1) (nA a)) := by
  have hn8 := hw.n8
  have hn := h.n hw
  have lp : ∀ (d i fuel : Nat), nA a = i + d → d < fuel → bX4_breaking_4 5000 w σ fuel (brkB a (a 0 1) i) (nI i) = some (brkB a (a 0 1) (nA a)) := by
    intro d
    induction d with
    | zero =>
      intro i fuel hd hf
      obtain ⟨fuel, rfl⟩ : ∃ q, fuel = q + 1 := ⟨fuel - 1, by omega⟩
      have : i = nA a := by omega
      subst this
      unfold bX4_breaking_4
      rw [hn, if_pos (nI_le (Nat.le_refl _) (by omega))]
    | succ d ih =>
      intro i fuel hd hf
      obtain ⟨fuel, rfl⟩ : ∃ q, fuel = q + 1 := ⟨fuel - 1, by omega⟩
      have ht := h.2.2.2 i (by omega)
      have := ih (i + 1) fuel (by omega) (by omega)
      unfold bX4_breaking_4
      rw [hn, if_neg (nI_ge (by omega) (by omega)), pu_chkP (pu_in (by omega) (by decide)), nI_clamp (by omega), show w + 2 + 2 + i = w + 4 + i by omega]
      rw [x_over, pu_ask, ht 4 (by decide), ht 3 (by decide), tE_bears ht, h.1.2.1, pu_chkP (pu_in (by omega) (by decide))]
      rw [brkB_s] at this
      unfold bX4_breaking_47
      rw [nI_1]
      by_cases q : a (4 + i) 4 = 1
      · rw [if_pos q] at this ⊢
        by_cases q2 : pc (a (4 + i) 3 &&& a 0 1) ≤ bearsT (a (4 + i)) (a 0 1)
        · rw [if_pos q2] at this ⊢
          rw [if_pos rfl]; exact this
        · rw [if_neg q2] at this ⊢
          rw [if_neg (by decide)]; exact this
      · rw [if_neg q] at this ⊢
        exact this
  unfold fX4_breaking
  exact lp (nA a) 0 5000 (by omega) (by omega)
theorem m_breaking {y : Nat} {a : AW} {σ : mt_St} (hw : wfA a y) (h : SM a (σ 57)) : fX6_wouldBreak 5000 σ = some (brkB a (a 0 1) (nA a)) := by
  have hn8 := hw.n8
  have hn : σ 57 1 = nI (nA a) := h.n hw
  have lp : ∀ (d i fuel : Nat), nA a = i + d → d < fuel → bX6_wouldBreak_4 5000 σ fuel (brkB a (a 0 1) i) (nI i) = some (brkB a (a 0 1) (nA a)) := by
    intro d
    induction d with
    | zero =>
      intro i fuel hd hf
      obtain ⟨fuel, rfl⟩ : ∃ q, fuel = q + 1 := ⟨fuel - 1, by omega⟩
      have : i = nA a := by omega
      subst this
      unfold bX6_wouldBreak_4
      rw [hn, if_pos (nI_le (Nat.le_refl _) (by omega))]
    | succ d ih =>
      intro i fuel hd hf
      obtain ⟨fuel, rfl⟩ : ∃ q, fuel = q + 1 := ⟨fuel - 1, by omega⟩
      have ht := h.T (show i < nA a by omega)
      have h8 : i < 8 := by omega
      have hp3 := h.p3 hw (show i < nA a by omega)
      have := ih (i + 1) fuel (by omega) (by omega)
      unfold bX6_wouldBreak_4
      rw [hn, if_neg (nI_ge (by omega) (by omega))]
      rw [m_is4 5000 σ h8, pu_ask, m_upIn h8 hp3, pu_ask, m_bears h8 hp3, pu_ask, ht 4 (by decide), ht 3 (by decide), tE_bears ht, h.1.2.1]
      rw [brkB_s] at this
      unfold bX6_wouldBreak_44 bX6_wouldBreak_45
      rw [nI_1, pu_or0]
      by_cases q : a (4 + i) 4 = 1
      · rw [if_pos q] at this ⊢
        by_cases q2 : pc (a (4 + i) 3 &&& a 0 1) ≤ bearsT (a (4 + i)) (a 0 1)
        · rw [if_pos q2] at this ⊢
          exact this
        · rw [if_neg q2] at this ⊢
          exact this
      · rw [if_neg q] at this ⊢
        exact this
  unfold fX6_wouldBreak
  exact lp (nA a) 0 5000 (by omega) (by omega)
theorem x_marks {w y : Nat} {a : AW} {σ : mt_St} (hw : wfA a y) (h : SX a σ w) : fX4_marksInForce 5000 σ w = some (mrkF a (nA a)) := by
  have hn8 := hw.n8
  have hn := h.n hw
  have lp : ∀ (d i fuel : Nat), nA a = i + d → d < fuel → bX4_marksInForce_4 5000 w σ fuel (mrkF a i) (nI i) = some (mrkF a (nA a)) := by
    intro d
    induction d with
    | zero =>
      intro i fuel hd hf
      obtain ⟨fuel, rfl⟩ : ∃ q, fuel = q + 1 := ⟨fuel - 1, by omega⟩
      have : i = nA a := by omega
      subst this
      unfold bX4_marksInForce_4
      rw [hn, if_pos (nI_le (Nat.le_refl _) (by omega))]
    | succ d ih =>
      intro i fuel hd hf
      obtain ⟨fuel, rfl⟩ : ∃ q, fuel = q + 1 := ⟨fuel - 1, by omega⟩
      have ht := h.2.2.2 i (by omega)
      have := ih (i + 1) fuel (by omega) (by omega)
      unfold bX4_marksInForce_4
      rw [hn, if_neg (nI_ge (by omega) (by omega)), pu_chkP (pu_in (by omega) (by decide)), nI_clamp (by omega), show w + 2 + 2 + i = w + 4 + i by omega]
      rw [ht 4 (by decide), ht 3 (by decide), pu_chkP (pu_in (by omega) (by decide))]
      rw [mrkF_s] at this
      unfold bX4_marksInForce_37
      rw [nI_1]
      by_cases q : a (4 + i) 4 = 1
      · rw [if_pos q] at this ⊢
        exact this
      · rw [if_neg q] at this ⊢
        exact this
  unfold fX4_marksInForce
  exact lp (nA a) 0 5000 (by omega) (by omega)
theorem m_marks {y : Nat} {a : AW} {σ : mt_St} (hw : wfA a y) (h : SM a (σ 57)) : fX6_marked 5000 σ = some (mrkF a (nA a)) := by
  have hn8 := hw.n8
  have hn : σ 57 1 = nI (nA a) := h.n hw
  have lp : ∀ (d i fuel : Nat), nA a = i + d → d < fuel → bX6_marked_4 5000 σ fuel (mrkF a i) (nI i) = some (mrkF a (nA a)) := by
    intro d
    induction d with
    | zero =>
      intro i fuel hd hf
      obtain ⟨fuel, rfl⟩ : ∃ q, fuel = q + 1 := ⟨fuel - 1, by omega⟩
      have : i = nA a := by omega
      subst this
      unfold bX6_marked_4
      rw [hn, if_pos (nI_le (Nat.le_refl _) (by omega))]
    | succ d ih =>
      intro i fuel hd hf
      obtain ⟨fuel, rfl⟩ : ∃ q, fuel = q + 1 := ⟨fuel - 1, by omega⟩
      have ht := h.T (show i < nA a by omega)
      have h8 : i < 8 := by omega
      have hp3 := h.p3 hw (show i < nA a by omega)
      have := ih (i + 1) fuel (by omega) (by omega)
      unfold bX6_marked_4
      rw [hn, if_neg (nI_ge (by omega) (by omega))]
      rw [m_is4 5000 σ h8, pu_ask, m_is3 5000 σ h8, pu_ask, ht 4 (by decide), ht 3 (by decide)]
      rw [mrkF_s] at this
      unfold bX6_marked_35
      rw [nI_1, pu_or0]
      by_cases q : a (4 + i) 4 = 1
      · rw [if_pos q] at this ⊢
        exact this
      · rw [if_neg q] at this ⊢
        exact this
  unfold fX6_marked
  exact lp (nA a) 0 5000 (by omega) (by omega)
/-- the treaty in force that has held longest -/
def lng (a : AW) : Nat → Int32
  | 0 => -1
  | t + 1 => if a (4 + t) 4 = 1 then (if lng a t < 0 then nI t else if a (4 + t) 5 ≤ a (4 + Int32.toNatClampNeg (lng a t)) 5 then lng a t else nI t) else lng a t
theorem lng_s (a : AW) (t : Nat) : lng a (t + 1) = if a (4 + t) 4 = 1 then (if lng a t < 0 then nI t else if a (4 + t) 5 ≤ a (4 + Int32.toNatClampNeg (lng a t)) 5 then lng a t else nI t) else lng a t := rfl
theorem lng_in (a : AW) : ∀ t, lng a t = -1 ∨ ∃ s, s < t ∧ lng a t = nI s := by
  intro t
  induction t with
  | zero => exact Or.inl rfl
  | succ t ih =>
    rw [lng_s]
    have keep : lng a t = -1 ∨ ∃ s, s < t + 1 ∧ lng a t = nI s := by
      rcases ih with q | ⟨s, hs, q⟩
      · exact Or.inl q
      · exact Or.inr ⟨s, by omega, q⟩
    repeat' split
    · exact Or.inr ⟨t, by omega, rfl⟩
    · exact keep
    · exact Or.inr ⟨t, by omega, rfl⟩
    · exact keep
def hld (a : AW) (v : Int32) : Int32 := if v < 0 then -1 else a (4 + Int32.toNatClampNeg v) 5
theorem x_longest {w y : Nat} {a : AW} {σ : mt_St} (hw : wfA a y) (h : SX a σ w) : fX4_longestHeld 5000 σ w = some (lng a (nA a)) := by
  have hn8 := hw.n8
  have hn := h.n hw
  have lp : ∀ (d i fuel : Nat), nA a = i + d → d < fuel → bX4_longestHeld_6 5000 w σ fuel (lng a i) (hld a (lng a i)) (nI i) = some (lng a (nA a)) := by
    intro d
    induction d with
    | zero =>
      intro i fuel hd hf
      obtain ⟨fuel, rfl⟩ : ∃ q, fuel = q + 1 := ⟨fuel - 1, by omega⟩
      have : i = nA a := by omega
      subst this
      unfold bX4_longestHeld_6
      rw [hn, if_pos (nI_le (Nat.le_refl _) (by omega))]
    | succ d ih =>
      intro i fuel hd hf
      obtain ⟨fuel, rfl⟩ : ∃ q, fuel = q + 1 := ⟨fuel - 1, by omega⟩
      have ht := h.2.2.2 i (by omega)
      have := ih (i + 1) fuel (by omega) (by omega)
      obtain ⟨j, hj, ej⟩ := (hw.2.2.2.2.2.2.2 i (by omega)).2.2.2.2.2.2.1
      have hnew : hld a (nI i) = a (4 + i) 5 := by unfold hld; rw [if_neg (nI_pos (by omega)), nI_clamp (by omega)]
      unfold bX4_longestHeld_6 bX4_longestHeld_52
      rw [hn, if_neg (nI_ge (by omega) (by omega)), pu_chkP (pu_in (by omega) (by decide)), nI_clamp (by omega), show w + 2 + 2 + i = w + 4 + i by omega, ht 4 (by decide), ht 5 (by decide), pu_chkP (pu_in (by omega) (by decide)), pu_chkP (pu_in (by omega) (by decide)), nI_1]
      rw [lng_s] at this
      by_cases q : a (4 + i) 4 = 1
      · rw [if_pos q] at this ⊢
        by_cases q2 : lng a i < 0
        · rw [if_pos q2, hnew] at this
          rw [if_neg (show ¬ a (4 + i) 5 ≤ hld a (lng a i) from by
            unfold hld; rw [if_pos q2, ej]
            intro z
            have z1 := Int32.le_iff_toInt_le.mp z
            rw [nI_toInt (by omega)] at z1
            have e2 : (-1 : Int32).toInt = -1 := rfl
            omega)]
          exact this
        · have eh : hld a (lng a i) = a (4 + Int32.toNatClampNeg (lng a i)) 5 := by unfold hld; rw [if_neg q2]
          rw [if_neg q2] at this
          by_cases q3 : a (4 + i) 5 ≤ a (4 + Int32.toNatClampNeg (lng a i)) 5
          · rw [if_pos q3] at this
            rw [if_pos (by rw [eh]; exact q3)]
            exact this
          · rw [if_neg q3, hnew] at this
            rw [if_neg (by rw [eh]; exact q3)]
            exact this
      · rw [if_neg q] at this ⊢
        exact this
  unfold fX4_longestHeld
  exact lp (nA a) 0 5000 (by omega) (by omega)
theorem m_longest {y : Nat} {a : AW} {σ : mt_St} (hw : wfA a y) (h : SM a (σ 57)) : fX6_heldLongest 5000 σ = some (lng a (nA a)) := by
  have hn8 := hw.n8
  have hn : σ 57 1 = nI (nA a) := h.n hw
  have lp : ∀ (d i fuel : Nat), nA a = i + d → d < fuel → bX6_heldLongest_4 5000 σ fuel (lng a i) (nI i) = some (lng a (nA a)) := by
    intro d
    induction d with
    | zero =>
      intro i fuel hd hf
      obtain ⟨fuel, rfl⟩ : ∃ q, fuel = q + 1 := ⟨fuel - 1, by omega⟩
      have : i = nA a := by omega
      subst this
      unfold bX6_heldLongest_4
      rw [hn, if_pos (nI_le (Nat.le_refl _) (by omega))]
    | succ d ih =>
      intro i fuel hd hf
      obtain ⟨fuel, rfl⟩ : ∃ q, fuel = q + 1 := ⟨fuel - 1, by omega⟩
      have ht := h.T (show i < nA a by omega)
      have h8 : i < 8 := by omega
      have := ih (i + 1) fuel (by omega) (by omega)
      rw [lng_s] at this
      unfold bX6_heldLongest_4
      simp only [bX6_heldLongest_43, bX6_heldLongest_47, bX6_heldLongest_48, bX6_heldLongest_58, i10, if_false, if_true]
      rw [hn, if_neg (nI_ge (by omega) (by omega)), m_is4 5000 σ h8, pu_ask, ht 4 (by decide), m_is5 5000 σ h8, pu_ask, ht 5 (by decide), nI_1]
      by_cases q : a (4 + i) 4 = 1
      · rw [if_pos q] at this ⊢
        by_cases q2 : lng a i < 0
        · rw [if_pos q2] at this ⊢
          exact this
        · rw [if_neg q2] at this ⊢
          rcases lng_in a i with e | ⟨s, hs, e⟩
          · rw [e] at q2; exact absurd (by decide) q2
          · have hts := h.T (show s < nA a by omega)
            rw [e, nI_clamp (by omega)] at this
            rw [e, m_is5 5000 σ (show s < 8 by omega), pu_ask, hts 5 (by decide)]
            by_cases q3 : a (4 + i) 5 ≤ a (4 + s) 5
            · rw [if_pos q3] at this ⊢
              exact this
            · rw [if_neg q3] at this ⊢
              exact this
      · rw [if_neg q] at this ⊢
        exact this
  unfold fX6_heldLongest
  exact lp (nA a) 0 5000 (by omega) (by omega)
/-! the spots that hold -/
def sptF (a : AW) : Nat → Int32
  | 0 => 0
  | i + 1 => if a 3 i < 0 then sptF a i else sptF a i + 1
theorem sptF_s (a : AW) (i : Nat) : sptF a (i + 1) = if a 3 i < 0 then sptF a i else sptF a i + 1 := rfl
theorem x_spots {w : Nat} {a : AW} {σ : mt_St} (h : SX a σ w) : fX4_spotsHolding 5000 σ w = some (sptF a 10) := by
  have lp : ∀ (d i fuel : Nat), 10 = i + d → d < fuel → bX4_spotsHolding_4 5000 w σ fuel (sptF a i) (nI i) = some (sptF a 10) := by
    intro d
    induction d with
    | zero =>
      intro i fuel hd hf
      obtain ⟨fuel, rfl⟩ : ∃ q, fuel = q + 1 := ⟨fuel - 1, by omega⟩
      have : i = 10 := by omega
      subst this
      unfold bX4_spotsHolding_4
      rw [if_pos (by decide)]
    | succ d ih =>
      intro i fuel hd hf
      obtain ⟨fuel, rfl⟩ : ∃ q, fuel = q + 1 := ⟨fuel - 1, by omega⟩
      have := ih (i + 1) fuel (by omega) (by omega)
      rw [sptF_s] at this
      unfold bX4_spotsHolding_4 bX4_spotsHolding_22
      rw [if_neg (show ¬ (10 : Int32) ≤ nI i from nI_ge (b := 10) (by omega) (by decide)), pu_chkP (pu_in (by omega) (by decide)), nI_clamp (by omega), h.2.2.1 i (by omega), nI_1]
      by_cases q : a 3 i < 0
      · rw [if_pos q] at this ⊢; exact this
      · rw [if_neg q] at this ⊢; exact this
  unfold fX4_spotsHolding
  exact lp 10 0 5000 (by omega) (by omega)
theorem m_spots {a : AW} {σ : mt_St} (h : SM a (σ 57)) : bX6_count_96 5000 5000 σ 0 0 = some (sptF a 10, σ) := by
  have lp : ∀ (d i fuel : Nat), 10 = i + d → d < fuel → bX6_count_96 5000 fuel σ (sptF a i) (nI i) = some (sptF a 10, σ) := by
    intro d
    induction d with
    | zero =>
      intro i fuel hd hf
      obtain ⟨fuel, rfl⟩ : ∃ q, fuel = q + 1 := ⟨fuel - 1, by omega⟩
      have : i = 10 := by omega
      subst this
      unfold bX6_count_96
      rw [if_pos (by decide)]
    | succ d ih =>
      intro i fuel hd hf
      obtain ⟨fuel, rfl⟩ : ∃ q, fuel = q + 1 := ⟨fuel - 1, by omega⟩
      have := ih (i + 1) fuel (by omega) (by omega)
      rw [sptF_s] at this
      unfold bX6_count_96 bX6_count_120
      rw [if_neg (show ¬ (10 : Int32) ≤ nI i from nI_ge (b := 10) (by omega) (by decide)), show (12 : Int32) + nI i = nI (12 + i) from nI_add 12 i, pu_chkP (pu_in (by omega) (by decide)), nI_clamp (by omega), h.2.2.1 i (by omega), nI_1, pu_z]
      by_cases q : a 3 i < 0
      · rw [if_pos q] at this
        rw [if_neg (Int32.not_le.mpr q)]; exact this
      · rw [if_neg q] at this
        rw [if_pos (Int32.not_lt.mp q)]; exact this
  exact lp 10 0 5000 (by omega) (by omega)
theorem pc_or : ∀ t : Nat, t < 8 → ∀ x : Nat, x < 2 ^ t → pc (nI x ||| ((1 : Int32) <<< (nI t &&& 31))) = pc (nI x) + 1 ∧ (nI x ||| ((1 : Int32) <<< (nI t &&& 31))) = nI (x + 2 ^ t) := by decide +kernel
theorem sh0 : ∀ t : Nat, t < 8 → (0 : Int32) <<< (nI t &&& 31) = 0 := by decide +kernel
theorem frc_pc {a : AW} {y : Nat} (hw : wfA a y) : ∀ t, t ≤ nA a → ∃ x, x < 2 ^ t ∧ frcF a t = nI x ∧ pc (frcF a t) = sumF (fun t => a (4 + t) 4) t := by
  intro t
  induction t with
  | zero => intro _; exact ⟨0, by decide, rfl, show pc 0 = 0 by decide⟩
  | succ t ih =>
    intro ht
    have hn8 := hw.n8
    obtain ⟨x, hx, e1, e2⟩ := ih (by omega)
    have hp : 2 ^ (t + 1) = 2 ^ t + 2 ^ t := by rw [Nat.pow_succ]; omega
    show ∃ x, x < 2 ^ (t + 1) ∧ (frcF a t ||| (a (4 + t) 4 <<< (nI t &&& 31))) = nI x ∧ pc (frcF a t ||| (a (4 + t) 4 <<< (nI t &&& 31))) = sumF (fun t => a (4 + t) 4) t + a (4 + t) 4
    rcases (hw.2.2.2.2.2.2.2 t (by omega)).2.2.2.2.2.1 with q | q
    · rw [q, sh0 t (by omega), pu_or0, pu_z]
      exact ⟨x, by omega, e1, e2⟩
    · obtain ⟨p1, p2⟩ := pc_or t (by omega) x hx
      rw [q, ← e2, e1]
      exact ⟨x + 2 ^ t, by omega, p2, p1⟩
theorem RT.ct {σ : mt_St} (h : RT σ) : σ 56 7 = σ 44 1 := h.1
theorem e_count {σ : mt_St} {y : Nat} (h : RR σ y) (v : Int32) : EV (fun s => fX5_count 5000 s v) (fun s => fX6_count 5000 s v) σ y := by
  obtain ⟨⟨a, ha⟩, -, -, -, hT⟩ := id h
  obtain ⟨i7, i1⟩ := ha.isT
  have hn8 := ha.1.n8
  by_cases c : ∃ k, k < 8 ∧ v = nI k
  · obtain ⟨k, hk, rfl⟩ := c
    rcases (show k = 0 ∨ k = 1 ∨ k = 2 ∨ k = 3 ∨ k = 4 ∨ k = 5 ∨ k = 6 ∨ k = 7 by omega) with rfl | rfl | rfl | rfl | rfl | rfl | rfl | rfl
    · refine EV.same (r := a 0 4) h ?_ ?_
      · show fX5_count 5000 σ (nI 0) = _
        unfold fX5_count
        rw [if_pos (show nI 0 = 0 by decide)]
        rw [ha.2.1.1.2.2.2.1]
      · show fX6_count 5000 σ (nI 0) = _
        unfold fX6_count
        rw [if_pos (show nI 0 = 0 by decide)]
        rw [ha.2.2.1.2.2.2.1]
    · refine EV.same (r := nI (nA a)) h ?_ ?_
      · show fX5_count 5000 σ (nI 1) = _
        unfold fX5_count
        rw [if_neg (show ¬ nI 1 = 0 by decide), if_pos (show nI 1 = 1 by decide)]
        rw [i7]
      · show fX6_count 5000 σ (nI 1) = _
        unfold fX6_count
        rw [if_neg (show ¬ nI 1 = 0 by decide), if_pos (show nI 1 = 1 by decide)]
        rw [i1]
    · refine EV.same (r := sumF (fun t => a (4 + t) 4) (nA a)) h ?_ ?_
      · show fX5_count 5000 σ (nI 2) = _
        unfold fX5_count
        rw [if_neg (show ¬ nI 2 = 0 by decide), if_neg (show ¬ nI 2 = 1 by decide), if_pos (show nI 2 = 2 by decide)]
        obtain ⟨x, hx, e1, e2⟩ := frc_pc ha.1 (nA a) (Nat.le_refl _)
        rw [x_inForce ha.1 ha.2.1, pu_ask, pc_x, pu_ask, e2]
      · show fX6_count 5000 σ (nI 2) = _
        unfold fX6_count
        rw [if_neg (show ¬ nI 2 = 0 by decide), if_neg (show ¬ nI 2 = 1 by decide), if_pos (show nI 2 = 2 by decide)]
        rw [m_sum4 ha.1 ha.2.2, pu_ask]
    · refine EV.same (r := a 0 3) h ?_ ?_
      · show fX5_count 5000 σ (nI 3) = _
        unfold fX5_count
        rw [if_neg (show ¬ nI 3 = 0 by decide), if_neg (show ¬ nI 3 = 1 by decide), if_neg (show ¬ nI 3 = 2 by decide), if_pos (show nI 3 = 3 by decide)]
        rw [ha.2.1.1.2.2.1]
      · show fX6_count 5000 σ (nI 3) = _
        unfold fX6_count
        rw [if_neg (show ¬ nI 3 = 0 by decide), if_neg (show ¬ nI 3 = 1 by decide), if_neg (show ¬ nI 3 = 2 by decide), if_pos (show nI 3 = 3 by decide)]
        rw [ha.2.2.1.2.2.1]
    · refine EV.same (r := sumF (fun t => a (4 + t) 7) (nA a)) h ?_ ?_
      · show fX5_count 5000 σ (nI 4) = _
        unfold fX5_count
        rw [if_neg (show ¬ nI 4 = 0 by decide), if_neg (show ¬ nI 4 = 1 by decide), if_neg (show ¬ nI 4 = 2 by decide), if_neg (show ¬ nI 4 = 3 by decide), if_pos (show nI 4 = 4 by decide)]
        rw [x_allBroken ha.1 ha.2.1, pu_ask]
      · show fX6_count 5000 σ (nI 4) = _
        unfold fX6_count
        rw [if_neg (show ¬ nI 4 = 0 by decide), if_neg (show ¬ nI 4 = 1 by decide), if_neg (show ¬ nI 4 = 2 by decide), if_neg (show ¬ nI 4 = 3 by decide), if_pos (show nI 4 = 4 by decide)]
        rw [m_sum7 ha.1 ha.2.2, pu_ask]
    · refine EV.same (r := σ 44 1) h ?_ ?_
      · show fX5_count 5000 σ (nI 5) = _
        unfold fX5_count
        rw [if_neg (show ¬ nI 5 = 0 by decide), if_neg (show ¬ nI 5 = 1 by decide), if_neg (show ¬ nI 5 = 2 by decide), if_neg (show ¬ nI 5 = 3 by decide), if_neg (show ¬ nI 5 = 4 by decide), if_pos (show nI 5 = 5 by decide)]
      · show fX6_count 5000 σ (nI 5) = _
        unfold fX6_count
        rw [if_neg (show ¬ nI 5 = 0 by decide), if_neg (show ¬ nI 5 = 1 by decide), if_neg (show ¬ nI 5 = 2 by decide), if_neg (show ¬ nI 5 = 3 by decide), if_neg (show ¬ nI 5 = 4 by decide), if_pos (show nI 5 = 5 by decide)]
        rw [hT.ct]
    · refine EV.same (r := a 0 5) h ?_ ?_
      · show fX5_count 5000 σ (nI 6) = _
        unfold fX5_count
        rw [if_neg (show ¬ nI 6 = 0 by decide), if_neg (show ¬ nI 6 = 1 by decide), if_neg (show ¬ nI 6 = 2 by decide), if_neg (show ¬ nI 6 = 3 by decide), if_neg (show ¬ nI 6 = 4 by decide), if_neg (show ¬ nI 6 = 5 by decide), if_pos (show nI 6 = 6 by decide)]
        rw [ha.2.1.1.2.2.2.2.1]
      · show fX6_count 5000 σ (nI 6) = _
        unfold fX6_count
        rw [if_neg (show ¬ nI 6 = 0 by decide), if_neg (show ¬ nI 6 = 1 by decide), if_neg (show ¬ nI 6 = 2 by decide), if_neg (show ¬ nI 6 = 3 by decide), if_neg (show ¬ nI 6 = 4 by decide), if_neg (show ¬ nI 6 = 5 by decide), if_pos (show nI 6 = 6 by decide)]
        rw [ha.2.2.1.2.2.2.2.1]
    · refine EV.same (r := sptF a 10) h ?_ ?_
      · show fX5_count 5000 σ (nI 7) = _
        unfold fX5_count
        rw [if_neg (show ¬ nI 7 = 0 by decide), if_neg (show ¬ nI 7 = 1 by decide), if_neg (show ¬ nI 7 = 2 by decide), if_neg (show ¬ nI 7 = 3 by decide), if_neg (show ¬ nI 7 = 4 by decide), if_neg (show ¬ nI 7 = 5 by decide), if_neg (show ¬ nI 7 = 6 by decide), if_pos (show nI 7 = 7 by decide)]
        rw [x_spots ha.2.1, pu_ask]
      · show fX6_count 5000 σ (nI 7) = _
        unfold fX6_count
        rw [if_neg (show ¬ nI 7 = 0 by decide), if_neg (show ¬ nI 7 = 1 by decide), if_neg (show ¬ nI 7 = 2 by decide), if_neg (show ¬ nI 7 = 3 by decide), if_neg (show ¬ nI 7 = 4 by decide), if_neg (show ¬ nI 7 = 5 by decide), if_neg (show ¬ nI 7 = 6 by decide), if_pos (show nI 7 = 7 by decide)]
        exact m_spots ha.2.2
  · have hn : ∀ k, k < 8 → ¬ v = nI k := fun k hk e => c ⟨k, hk, e⟩
    refine EV.find (w := 0) (by decide) h ?_ ?_
    · show fX5_count 5000 σ v = _
      unfold fX5_count
      rw [if_neg (show ¬ v = 0 from hn 0 (by decide)), if_neg (show ¬ v = 1 from hn 1 (by decide)), if_neg (show ¬ v = 2 from hn 2 (by decide)), if_neg (show ¬ v = 3 from hn 3 (by decide)), if_neg (show ¬ v = 4 from hn 4 (by decide)), if_neg (show ¬ v = 5 from hn 5 (by decide)), if_neg (show ¬ v = 6 from hn 6 (by decide)), if_neg (show ¬ v = 7 from hn 7 (by decide)), x_find0, pu_call]
    · show fX6_count 5000 _ v = _
      unfold fX6_count
      rw [if_neg (show ¬ v = 0 from hn 0 (by decide)), if_neg (show ¬ v = 1 from hn 1 (by decide)), if_neg (show ¬ v = 2 from hn 2 (by decide)), if_neg (show ¬ v = 3 from hn 3 (by decide)), if_neg (show ¬ v = 4 from hn 4 (by decide)), if_neg (show ¬ v = 5 from hn 5 (by decide)), if_neg (show ¬ v = 6 from hn 6 (by decide)), if_neg (show ¬ v = 7 from hn 7 (by decide)), m_find0, pu_call]
