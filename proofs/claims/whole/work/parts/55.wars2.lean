theorem lg0 (x : Int64) : lg_cmp x 0 = 0 ↔ x = 0 := by
  unfold lg_cmp
  by_cases h : x = 0
  · subst h; exact ⟨fun _ => rfl, fun _ => by decide⟩
  · refine ⟨fun e => ?_, fun e => absurd e h⟩
    by_cases g : x > 0
    · rw [if_pos g] at e; exact absurd e (by decide)
    · rw [if_neg g, if_neg h] at e; exact absurd e (by decide)
theorem and_pb {x : Int64} {j : Nat} (hj : j < 36) : x &&& pb j = 0 ↔ bt x j = false := by
  constructor
  · intro e
    have : bt (x &&& pb j) j = false := by rw [e]; exact bt_0 j
    rw [bt_and, bt_pb j hj j (by omega), decide_eq_true rfl, Bool.and_true] at this
    exact this
  · intro e
    apply bt_ext
    intro i hi
    rw [bt_and, bt_pb j hj i hi, bt_0]
    by_cases q : i = j
    · subst q; rw [e, Bool.false_and]
    · rw [decide_eq_false q, Bool.and_false]
def wrF (a : AW) (p : Nat) : Nat → Int32
  | 0 => 0
  | i + 1 => if i = p then wrF a p i else if warI a (prI p i) = true then wrF a p i ||| ((1 : Int32) <<< (nI i &&& 31)) else wrF a p i
theorem wrF_s (a : AW) (p i : Nat) : wrF a p (i + 1) = if i = p then wrF a p i else if warI a (prI p i) = true then wrF a p i ||| ((1 : Int32) <<< (nI i &&& 31)) else wrF a p i := rfl
theorem x_wrLoop {a : AW} {p : Nat} {x : Int64} {σ : mt_St} (hp : p < 6) (hx : ∀ i, i < 64 → bt x i = warI a i) : ∀ (d i fuel : Nat), 6 = i + d → d < fuel → bX5_wars_28 5000 fuel σ (nI p) x (wrF a p i) (nI i) = some (wrF a p 6, σ) := by
  intro d
  induction d with
  | zero =>
    intro i fuel hd hf
    obtain ⟨fuel, rfl⟩ : ∃ q, fuel = q + 1 := ⟨fuel - 1, by omega⟩
    have : i = 6 := by omega
    subst this
    unfold bX5_wars_28
    rw [if_pos (by decide)]
  | succ d ih =>
    intro i fuel hd hf
    obtain ⟨fuel, rfl⟩ : ∃ q, fuel = q + 1 := ⟨fuel - 1, by omega⟩
    have := ih (i + 1) fuel (by omega) (by omega)
    rw [wrF_s] at this
    unfold bX5_wars_28 bX5_wars_63
    rw [if_neg (show ¬ (6 : Int32) ≤ nI i from nI_ge (b := 6) (by omega) (by decide)), x_prI p hp i (by omega), pu_ask, nI_1]
    have hl := pr_lt p hp i (by omega)
    by_cases q : i = p
    · rw [if_pos q] at this
      rw [if_pos (by rw [q])]; exact this
    · rw [if_neg q] at this
      rw [if_neg (fun e => q (nI_inj (by omega) (by omega) e))]
      by_cases w : warI a (prI p i) = true
      · rw [if_pos w] at this
        rw [if_neg (fun e => by have := (and_pb hl).mp ((lg0 _).mp e); rw [hx _ (by omega), w] at this; cases this)]; exact this
      · rw [if_neg w] at this
        rw [if_pos ((lg0 _).mpr ((and_pb hl).mpr (by rw [hx _ (by omega)]; simpa using w)))]; exact this
theorem m_wrLoop {a : AW} {y p : Nat} {σ : mt_St} (hp : p < 6) (hw : wfA a y) (h : SM a (σ 57)) : ∀ (d i fuel : Nat), 6 = i + d → d < fuel → bX6_wars_18 5000 fuel σ (nI p) (wrF a p i) (nI i) = some (wrF a p 6, σ) := by
  intro d
  induction d with
  | zero =>
    intro i fuel hd hf
    obtain ⟨fuel, rfl⟩ : ∃ q, fuel = q + 1 := ⟨fuel - 1, by omega⟩
    have : i = 6 := by omega
    subst this
    unfold bX6_wars_18
    rw [if_pos (by decide)]
  | succ d ih =>
    intro i fuel hd hf
    obtain ⟨fuel, rfl⟩ : ∃ q, fuel = q + 1 := ⟨fuel - 1, by omega⟩
    have := ih (i + 1) fuel (by omega) (by omega)
    rw [wrF_s] at this
    unfold bX6_wars_18 bX6_wars_45 bX6_wars_46
    rw [if_neg (show ¬ (6 : Int32) ≤ nI i from nI_ge (b := 6) (by omega) (by decide)), m_isWar hw h hp (show i < 6 by omega), pu_ask, nI_1, pu_or0]
    by_cases q : i = p
    · rw [if_pos q] at this
      rw [if_pos (by rw [q])]; exact this
    · rw [if_neg q] at this
      rw [if_neg (fun e => q (nI_inj (by omega) (by omega) e))]
      cases w : warI a (prI p i)
      · rw [w, if_neg (by decide)] at this
        rw [bN_f, if_pos rfl]; exact this
      · rw [w, if_pos rfl] at this
        rw [bN_t, if_neg i10']; exact this
theorem e_wars {σ : mt_St} {y : Nat} (h : RR σ y) (u : Int32) : EV (fun s => fX5_wars 5000 s u) (fun s => fX6_wars 5000 s u) σ y := by
  obtain ⟨⟨a, ha⟩, -⟩ := id h
  cases h1 : okR u 5
  · refine EV.find (w := 0) (by decide) h ?_ ?_
    · simp only [fX5_wars, x_win, h1, x_find0, pu_ask, pu_call, pu_bnd, pu_chk, pu_b0, pu_b1, bN_t, bN_f, bN_c, i10, i00, if_true, if_false]
    · simp only [fX6_wars, m_isPower, h1, m_find0, pu_ask, pu_call, pu_bnd, pu_chk, pu_b0, pu_b1, bN_t, bN_f, bN_c, i10, i00, if_true, if_false]
  obtain ⟨p, hp, rfl⟩ := okR_nI (m := 5) (by decide) h1
  obtain ⟨x, e1, e2⟩ := x_pairs ha.1 ha.2.1
  refine EV.same (r := wrF a p 6) h ?_ ?_
  · show fX5_wars 5000 σ (nI p) = _
    unfold fX5_wars
    rw [x_win, pu_ask, h1, bN_t, if_neg i10', e1, pu_ask]
    exact x_wrLoop (by omega) e2 6 0 5000 (by omega) (by omega)
  · show fX6_wars 5000 σ (nI p) = _
    unfold fX6_wars
    rw [m_isPower, pu_ask, h1, bN_t, if_neg i10']
    exact m_wrLoop (by omega) ha.1 ha.2.2 6 0 5000 (by omega) (by omega)
