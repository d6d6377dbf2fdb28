/-! the law's loop -/
def mt_s0 : mt_St := fun c => ([(fun k => ([0, 0, 0, 0, 0, 0, 0, 0, 0, 0, 0, 0] : List Int32).getD k 0), (fun k => ([1, 0, 0, 0, 0, 1, 0, 0, 0] : List Int32).getD k 0), (upd (upd (upd (upd (upd (upd (fun _ => 0) 0 12) 1 12) 2 12) 3 12) 4 12) 5 12), (fun _ => 0), (upd (upd (upd (upd (upd (upd (upd (upd (upd (upd (fun _ => 0) 0 (-1)) 1 (-1)) 2 (-1)) 3 (-1)) 4 (-1)) 5 (-1)) 6 (-1)) 7 (-1)) 8 (-1)) 9 (-1)), (fun k => ([0, 0, 0, 0, 0, 0, 0, 0] : List Int32).getD k 0), (fun k => ([0, 0, 0, 0, 0, 0, 0, 0] : List Int32).getD k 0), (fun k => ([0, 0, 0, 0, 0, 0, 0, 0] : List Int32).getD k 0), (fun k => ([0, 0, 0, 0, 0, 0, 0, 0] : List Int32).getD k 0), (fun k => ([0, 0, 0, 0, 0, 0, 0, 0] : List Int32).getD k 0), (fun k => ([0, 0, 0, 0, 0, 0, 0, 0] : List Int32).getD k 0), (fun k => ([0, 0, 0, 0, 0, 0, 0, 0] : List Int32).getD k 0), (fun k => ([0, 0, 0, 0, 0, 0, 0, 0] : List Int32).getD k 0), (fun k => ([1, 0, 0, 0, 0, 1, 0, 0, 0] : List Int32).getD k 0), (upd (upd (upd (upd (upd (upd (fun _ => 0) 0 12) 1 12) 2 12) 3 12) 4 12) 5 12), (fun _ => 0), (upd (upd (upd (upd (upd (upd (upd (upd (upd (upd (fun _ => 0) 0 (-1)) 1 (-1)) 2 (-1)) 3 (-1)) 4 (-1)) 5 (-1)) 6 (-1)) 7 (-1)) 8 (-1)) 9 (-1)), (fun k => ([0, 0, 0, 0, 0, 0, 0, 0] : List Int32).getD k 0), (fun k => ([0, 0, 0, 0, 0, 0, 0, 0] : List Int32).getD k 0), (fun k => ([0, 0, 0, 0, 0, 0, 0, 0] : List Int32).getD k 0), (fun k => ([0, 0, 0, 0, 0, 0, 0, 0] : List Int32).getD k 0), (fun k => ([0, 0, 0, 0, 0, 0, 0, 0] : List Int32).getD k 0), (fun k => ([0, 0, 0, 0, 0, 0, 0, 0] : List Int32).getD k 0), (fun k => ([0, 0, 0, 0, 0, 0, 0, 0] : List Int32).getD k 0), (fun k => ([0, 0, 0, 0, 0, 0, 0, 0] : List Int32).getD k 0), (fun k => ([1, 0, 0, 0, 0, 1, 0, 0, 0] : List Int32).getD k 0), (upd (upd (upd (upd (upd (upd (fun _ => 0) 0 12) 1 12) 2 12) 3 12) 4 12) 5 12), (fun _ => 0), (upd (upd (upd (upd (upd (upd (upd (upd (upd (upd (fun _ => 0) 0 (-1)) 1 (-1)) 2 (-1)) 3 (-1)) 4 (-1)) 5 (-1)) 6 (-1)) 7 (-1)) 8 (-1)) 9 (-1)), (fun k => ([0, 0, 0, 0, 0, 0, 0, 0] : List Int32).getD k 0), (fun k => ([0, 0, 0, 0, 0, 0, 0, 0] : List Int32).getD k 0), (fun k => ([0, 0, 0, 0, 0, 0, 0, 0] : List Int32).getD k 0), (fun k => ([0, 0, 0, 0, 0, 0, 0, 0] : List Int32).getD k 0), (fun k => ([0, 0, 0, 0, 0, 0, 0, 0] : List Int32).getD k 0), (fun k => ([0, 0, 0, 0, 0, 0, 0, 0] : List Int32).getD k 0), (fun k => ([0, 0, 0, 0, 0, 0, 0, 0] : List Int32).getD k 0), (fun k => ([0, 0, 0, 0, 0, 0, 0, 0] : List Int32).getD k 0), (fun k => ([0, 0, 0, 0, 0, 0, 0, 0] : List Int32).getD k 0), (fun _ => 0), (fun k => ([0, 0, 0] : List Int32).getD k 0), (fun _ => 0), (fun _ => 0), (fun _ => 0), (fun _ => 0), (fun k => ([0, 0, 0, 0, 0, 0] : List Int32).getD k 0), (fun _ => 0), (fun _ => 0), (fun k => ([0, 0, 0] : List Int32).getD k 0), (fun k => ([0, 0, 0] : List Int32).getD k 0), (fun k => ([0, 0, 0] : List Int32).getD k 0), (fun k => ([0, 0, 0] : List Int32).getD k 0), (fun _ => 0), (fun _ => 0), (fun _ => 0), (fun _ => 0), (fun _ => 0), (fun k => ([0, 0, 0, 0, 0, 0, 0, 0, 0, 0, 0, 0, 0, 0, 0, 0, 0, 0, 0, 0, 0] : List Int32).getD k 0), (upd (upd (upd (upd (upd (upd (upd (upd (upd (upd (upd (upd (upd (upd (upd (upd (upd (upd (fun _ => 0) 2 1) 4 1) 6 12) 7 12) 8 12) 9 12) 10 12) 11 12) 12 (-1)) 13 (-1)) 14 (-1)) 15 (-1)) 16 (-1)) 17 (-1)) 18 (-1)) 19 (-1)) 20 (-1)) 21 (-1)), (fun _ => 0), (fun _ => 0), (fun _ => 0), (fun _ => 0), (fun _ => 0), (fun _ => 0), (fun _ => 0), (fun _ => 0), (fun _ => 0), (fun _ => 0)] : List (Nat → Int32)).getD c (fun _ => 0)
def aw0 : AW := fun c => if c = 0 then (fun k => if k = 0 then 1 else if k = 5 then 1 else 0) else if c = 1 then (fun _ => 12) else if c = 3 then (fun _ => -1) else (fun _ => 0)
theorem s0_RR : RR mt_s0 0 := by
  have n0 : nA aw0 = 0 := rfl
  refine ⟨⟨aw0, ⟨⟨0, by omega, rfl⟩, ⟨1, by omega, rfl⟩, ⟨0, by omega, rfl⟩, ⟨0, by omega, rfl⟩, ⟨0, by omega, rfl⟩, fun i hi => ⟨12, by omega, rfl⟩, fun i hi => Or.inl rfl, fun t ht => absurd ht (by rw [n0]; omega)⟩, ⟨⟨rfl, rfl, rfl, rfl, rfl, rfl⟩, ?_, ?_, fun t ht => absurd ht (by rw [n0]; omega)⟩, ⟨⟨rfl, rfl, rfl, rfl, rfl, rfl⟩, ?_, ?_, fun t ht => absurd ht (by rw [n0]; omega)⟩⟩, ⟨rfl, Or.inl rfl⟩, ⟨?_, by decide +kernel⟩, ?_, ⟨rfl, 0, by omega, rfl, fun k hk => by omega⟩⟩
  · show ∀ i, i < 6 → mt_s0 (1 + 1) i = 12
    decide +kernel
  · show ∀ i, i < 10 → mt_s0 (1 + 3) i = -1
    decide +kernel
  · show ∀ i, i < 6 → mt_s0 57 (6 + i) = 12
    decide +kernel
  · show ∀ i, i < 10 → mt_s0 57 (12 + i) = -1
    decide +kernel
  · decide +kernel
  · intro s hs
    rcases (show s = 0 ∨ s = 1 ∨ s = 2 ∨ s = 3 by omega) with rfl | rfl | rfl | rfl
    · exact ⟨rfl, rfl, fun k hk => rfl, Or.inl rfl, 0, by omega, rfl⟩
    · exact ⟨rfl, rfl, fun k hk => rfl, Or.inl rfl, 0, by omega, rfl⟩
    · exact ⟨rfl, rfl, fun k hk => rfl, Or.inl rfl, 0, by omega, rfl⟩
    · exact ⟨rfl, rfl, fun k hk => rfl, Or.inl rfl, 0, by omega, rfl⟩
theorem lw_neg : ∀ l : Nat, l < 6 → (Int32.ofNat l - 6).toInt < 0 := by decide +kernel
theorem lw_lim {L j : Nat} (hL : L ≤ 3072) (hj : j ≤ 4000) : (Int32.ofNat L - 6 < nI j) ↔ L < j + 6 := by
  by_cases h : L < 6
  · refine ⟨fun _ => by omega, fun _ => ?_⟩
    rw [Int32.lt_iff_toInt_lt, nI_toInt (by omega)]
    have := lw_neg L h
    omega
  · have e : Int32.ofNat L - 6 = nI (L - 6) := nI_sub (x := L) (c := 6) (by omega)
    rw [e, nI_ltI (by omega) (by omega)]
    omega
theorem lg_rr (r : Int64) : lg_cmp r r = 0 := by
  unfold lg_cmp
  rw [if_neg (show ¬ r > r from Int64.lt_irrefl), if_pos rfl]
set_option maxHeartbeats 4000000 in
set_option maxRecDepth 20000 in
theorem lw_loop {L : Nat} {xs : Nat → Int32} (hL : L ≤ 3072) : ∀ (d j fuel : Nat) (σ : mt_St) (y : Nat), L < j + 6 + 6 * d → j ≤ 3078 → d < fuel → y + 60 * d ≤ 40000 → RR σ y → ∃ σf : mt_St, bL_law_18 5000 L xs fuel σ (nI j) = some ((1 : Int32), σf) := by
  intro d
  induction d with
  | zero =>
    intro j fuel σ y h1 h2 h3 h4 h
    obtain ⟨fuel, rfl⟩ : ∃ q, fuel = q + 1 := ⟨fuel - 1, by omega⟩
    unfold bL_law_18
    rw [if_pos ((lw_lim hL (by omega)).mpr (by omega))]
    exact ⟨σ, rfl⟩
  | succ d ih =>
    intro j fuel σ y h1 h2 h3 h4 h
    obtain ⟨fuel, rfl⟩ : ∃ q, fuel = q + 1 := ⟨fuel - 1, by omega⟩
    by_cases hl : L < j + 6
    · unfold bL_law_18
      rw [if_pos ((lw_lim hL (by omega)).mpr hl)]
      exact ⟨σ, rfl⟩
    have hy : y ≤ 40000 := by omega
    have fin : ∀ τ : mt_St, RR τ (y + 60) → ∃ σf : mt_St, bL_law_18 5000 L xs fuel τ (nI (j + 6)) = some ((1 : Int32), σf) := fun τ hτ => ih (j + 6) fuel τ (y + 60) (by omega) (by omega) (by omega) (by omega) hτ
    have fin0 : ∀ τ : mt_St, RR τ y → ∃ σf : mt_St, bL_law_18 5000 L xs fuel τ (nI (j + 6)) = some ((1 : Int32), σf) := fun τ hτ => fin τ (hτ.mono (by omega))
    have a1 : nI j + 1 = nI (j + 1) := nI_add j 1
    have a2 : nI j + 2 = nI (j + 2) := nI_add j 2
    have a3 : nI j + 3 = nI (j + 3) := nI_add j 3
    have a4 : nI j + 4 = nI (j + 4) := nI_add j 4
    have a5 : nI j + 5 = nI (j + 5) := nI_add j 5
    have a6 : nI j + 6 = nI (j + 6) := nI_add j 6
    have c0 : (nI j).toNatClampNeg = j := nI_clamp (by omega)
    have c1 : (nI (j + 1)).toNatClampNeg = j + 1 := nI_clamp (by omega)
    have c2 : (nI (j + 2)).toNatClampNeg = j + 2 := nI_clamp (by omega)
    have c3 : (nI (j + 3)).toNatClampNeg = j + 3 := nI_clamp (by omega)
    have c4 : (nI (j + 4)).toNatClampNeg = j + 4 := nI_clamp (by omega)
    have c5 : (nI (j + 5)).toNatClampNeg = j + 5 := nI_clamp (by omega)
    have i0 : mt_in (nI j) L = true := pu_in (by omega) (by omega)
    have i1 : mt_in (nI (j + 1)) L = true := pu_in (by omega) (by omega)
    have i2 : mt_in (nI (j + 2)) L = true := pu_in (by omega) (by omega)
    have i3 : mt_in (nI (j + 3)) L = true := pu_in (by omega) (by omega)
    have i4 : mt_in (nI (j + 4)) L = true := pu_in (by omega) (by omega)
    have i5 : mt_in (nI (j + 5)) L = true := pu_in (by omega) (by omega)
    unfold bL_law_18 bL_law_1386
    rw [if_neg (fun z => hl ((lw_lim hL (by omega)).mp z))]
    simp only [a1, a2, a3, a4, a5, a6, c0, c1, c2, c3, c4, c5, i0, i1, i2, i3, i4, i5, pu_chk]
    by_cases k0 : xs j &&& 63 = 0
    · obtain ⟨r, s1, s2, e1, e2, e3⟩ := e_set h (xs (j + 1)) (xs (j + 2))
      have e1' : fX5_set 5000 σ (xs (j + 1)) (xs (j + 2)) = some (r, s1) := e1
      have e2' : fX6_set 5000 s1 (xs (j + 1)) (xs (j + 2)) = some (r, s2) := e2
      rw [if_pos k0, e1', pu_call, e2', pu_call, if_pos rfl]
      exact fin0 s2 e3
    rw [if_neg k0]
    by_cases k1 : xs j &&& 63 = 1
    · obtain ⟨r, s1, s2, e1, e2, e3⟩ := e_seen h (xs (j + 1))
      have e1' : fX5_seen 5000 σ (xs (j + 1)) = some (r, s1) := e1
      have e2' : fX6_seen 5000 s1 (xs (j + 1)) = some (r, s2) := e2
      rw [if_pos k1, e1', pu_call, e2', pu_call, if_pos rfl]
      exact fin0 s2 e3
    rw [if_neg k1]
    by_cases k2 : xs j &&& 63 = 2
    · obtain ⟨r, s1, s2, e1, e2, e3⟩ := e_event h (xs (j + 1)) (xs (j + 2))
      have e1' : fX5_event 5000 σ (xs (j + 1)) (xs (j + 2)) = some (r, s1) := e1
      have e2' : fX6_event 5000 s1 (xs (j + 1)) (xs (j + 2)) = some (r, s2) := e2
      rw [if_pos k2, e1', pu_call, e2', pu_call, if_pos rfl]
      exact fin0 s2 e3
    rw [if_neg k2]
    by_cases k3 : xs j &&& 63 = 3
    · obtain ⟨r, s1, s2, e1, e2, e3⟩ := e_listed h (xs (j + 1))
      have e1' : fX5_listed 5000 σ (xs (j + 1)) = some (r, s1) := e1
      have e2' : fX6_listed 5000 s1 (xs (j + 1)) = some (r, s2) := e2
      rw [if_pos k3, e1', pu_call, e2', pu_call, if_pos rfl]
      exact fin0 s2 e3
    rw [if_neg k3]
    by_cases k4 : xs j &&& 63 = 4
    · obtain ⟨r, s1, s2, e1, e2, e3⟩ := e_treaty h (xs (j + 1)) (xs (j + 2)) (xs (j + 3))
      have e1' : fX5_treaty 5000 σ (xs (j + 1)) (xs (j + 2)) (xs (j + 3)) = some (r, s1) := e1
      have e2' : fX6_treaty 5000 s1 (xs (j + 1)) (xs (j + 2)) (xs (j + 3)) = some (r, s2) := e2
      rw [if_pos k4, e1', pu_call, e2', pu_call, if_pos rfl]
      exact fin0 s2 e3
    rw [if_neg k4]
    by_cases k5 : xs j &&& 63 = 5
    · obtain ⟨r, s1, s2, e1, e2, e3⟩ := e_of h (xs (j + 1)) (xs (j + 2))
      have e1' : fX5_of 5000 σ (xs (j + 1)) (xs (j + 2)) = some (r, s1) := e1
      have e2' : fX6_of 5000 s1 (xs (j + 1)) (xs (j + 2)) = some (r, s2) := e2
      rw [if_pos k5, e1', pu_call, e2', pu_call, if_pos rfl]
      exact fin0 s2 e3
    rw [if_neg k5]
    by_cases k6 : xs j &&& 63 = 6
    · obtain ⟨r, s1, s2, e1, e2, e3⟩ := e_change h (xs (j + 1)) (xs (j + 2)) (xs (j + 3))
      have e1' : fX5_change 5000 σ (xs (j + 1)) (xs (j + 2)) (xs (j + 3)) = some (r, s1) := e1
      have e2' : fX6_change 5000 s1 (xs (j + 1)) (xs (j + 2)) (xs (j + 3)) = some (r, s2) := e2
      rw [if_pos k6, e1', pu_call, e2', pu_call, if_pos rfl]
      exact fin0 s2 e3
    rw [if_neg k6]
    by_cases k7 : xs j &&& 63 = 7
    · obtain ⟨r, s1, s2, e1, e2, e3⟩ := e_wars h (xs (j + 1))
      have e1' : fX5_wars 5000 σ (xs (j + 1)) = some (r, s1) := e1
      have e2' : fX6_wars 5000 s1 (xs (j + 1)) = some (r, s2) := e2
      rw [if_pos k7, e1', pu_call, e2', pu_call, if_pos rfl]
      exact fin0 s2 e3
    rw [if_neg k7]
    by_cases k8 : xs j &&& 63 = 8
    · obtain ⟨r, s1, s2, e1, e2, e3⟩ := e_go hy h (xs (j + 1))
      have e1' : fX5_go 5000 σ (xs (j + 1)) = some (r, s1) := e1
      have e2' : fX6_go 5000 s1 (xs (j + 1)) = some (r, s2) := e2
      rw [if_pos k8, e1', pu_call, e2', pu_call, if_pos rfl]
      exact fin s2 e3
    rw [if_neg k8]
    by_cases k9 : xs j &&& 63 = 9
    · obtain ⟨r, s1, s2, e1, e2, e3⟩ := e_now h (xs (j + 1))
      have e1' : fX5_now 5000 σ (xs (j + 1)) = some (r, s1) := e1
      have e2' : fX6_now 5000 s1 (xs (j + 1)) = some (r, s2) := e2
      rw [if_pos k9, e1', pu_call, e2', pu_call, if_pos rfl]
      exact fin0 s2 e3
    rw [if_neg k9]
    by_cases k10 : xs j &&& 63 = 10
    · obtain ⟨r, s1, s2, e1, e2, e3⟩ := e_ahead hy h (xs (j + 1)) (xs (j + 2)) (xs (j + 3))
      have e1' : fX5_ahead 5000 σ (xs (j + 1)) (xs (j + 2)) (xs (j + 3)) = some (r, s1) := e1
      have e2' : fX6_ahead 5000 s1 (xs (j + 1)) (xs (j + 2)) (xs (j + 3)) = some (r, s2) := e2
      rw [if_pos k10, e1', pu_call, e2', pu_call, if_pos rfl]
      exact fin0 s2 e3
    rw [if_neg k10]
    by_cases k11 : xs j &&& 63 = 11
    · obtain ⟨r, s1, s2, e1, e2, e3⟩ := e_gold hy h (xs (j + 1))
      have e1' : fX5_gold 5000 σ (xs (j + 1)) = some (r, s1) := e1
      have e2' : fX6_gold 5000 s1 (xs (j + 1)) = some (r, s2) := e2
      rw [if_pos k11, e1', pu_call, e2', pu_call, if_pos rfl]
      exact fin0 s2 e3
    rw [if_neg k11]
    by_cases k12 : xs j &&& 63 = 12
    · obtain ⟨r, s1, s2, e1, e2, e3⟩ := e_breaks hy h (xs (j + 1))
      have e1' : fX5_breaks 5000 σ (xs (j + 1)) = some (r, s1) := e1
      have e2' : fX6_breaks 5000 s1 (xs (j + 1)) = some (r, s2) := e2
      rw [if_pos k12, e1', pu_call, e2', pu_call, if_pos rfl]
      exact fin0 s2 e3
    rw [if_neg k12]
    by_cases k13 : xs j &&& 63 = 13
    · obtain ⟨r, s1, s2, e1, e2, e3⟩ := e_war hy h (xs (j + 1)) (xs (j + 2))
      have e1' : fX5_war 5000 σ (xs (j + 1)) (xs (j + 2)) = some (r, s1) := e1
      have e2' : fX6_war 5000 s1 (xs (j + 1)) (xs (j + 2)) = some (r, s2) := e2
      rw [if_pos k13, e1', pu_call, e2', pu_call, if_pos rfl]
      exact fin0 s2 e3
    rw [if_neg k13]
    by_cases k14 : xs j &&& 63 = 14
    · obtain ⟨r, s1, s2, e1, e2, e3⟩ := e_peace hy h
      have e1' : fX5_peace 5000 σ = some (r, s1) := e1
      have e2' : fX6_peace 5000 s1 = some (r, s2) := e2
      rw [if_pos k14, e1', pu_call, e2', pu_call, if_pos rfl]
      exact fin0 s2 e3
    rw [if_neg k14]
    by_cases k15 : xs j &&& 63 = 15
    · obtain ⟨r, s1, s2, e1, e2, e3⟩ := e_when hy h (xs (j + 1)) (xs (j + 2))
      have e1' : fX5_when 5000 σ (xs (j + 1)) (xs (j + 2)) = some (r, s1) := e1
      have e2' : fX6_when 5000 s1 (xs (j + 1)) (xs (j + 2)) = some (r, s2) := e2
      rw [if_pos k15, e1', pu_call, e2', pu_call, if_pos rfl]
      exact fin0 s2 e3
    rw [if_neg k15]
    by_cases k16 : xs j &&& 63 = 16
    · obtain ⟨r, s1, s2, e1, e2, e3⟩ := e_yardFor hy h (xs (j + 1))
      have e1' : fX5_yardFor 5000 σ (xs (j + 1)) = some (r, s1) := e1
      have e2' : fX6_yardFor 5000 s1 (xs (j + 1)) = some (r, s2) := e2
      rw [if_pos k16, e1', pu_call, e2', pu_call, if_pos rfl]
      exact fin0 s2 e3
    rw [if_neg k16]
    by_cases k17 : xs j &&& 63 = 17
    · obtain ⟨r, s1, s2, e1, e2, e3⟩ := e_kindFor hy h (xs (j + 1)) (xs (j + 2))
      have e1' : fX5_kindFor 5000 σ (xs (j + 1)) (xs (j + 2)) = some (r, s1) := e1
      have e2' : fX6_kindFor 5000 s1 (xs (j + 1)) (xs (j + 2)) = some (r, s2) := e2
      rw [if_pos k17, e1', pu_call, e2', pu_call, if_pos rfl]
      exact fin0 s2 e3
    rw [if_neg k17]
    by_cases k18 : xs j &&& 63 = 18
    · obtain ⟨r, s1, s2, e1, e2, e3⟩ := e_strike hy h (xs (j + 1)) (xs (j + 2))
      have e1' : fX5_strike 5000 σ (xs (j + 1)) (xs (j + 2)) = some (r, s1) := e1
      have e2' : fX6_strike 5000 s1 (xs (j + 1)) (xs (j + 2)) = some (r, s2) := e2
      rw [if_pos k18, e1', pu_call, e2', pu_call, if_pos rfl]
      exact fin0 s2 e3
    rw [if_neg k18]
    by_cases k19 : xs j &&& 63 = 19
    · obtain ⟨r, s1, s2, e1, e2, e3⟩ := e_lull hy h (xs (j + 1))
      have e1' : fX5_lull 5000 σ (xs (j + 1)) = some (r, s1) := e1
      have e2' : fX6_lull 5000 s1 (xs (j + 1)) = some (r, s2) := e2
      rw [if_pos k19, e1', pu_call, e2', pu_call, if_pos rfl]
      exact fin0 s2 e3
    rw [if_neg k19]
    by_cases k20 : xs j &&& 63 = 20
    · obtain ⟨r, s1, s2, e1, e2, e3⟩ := e_tear hy h (xs (j + 1)) (xs (j + 2))
      have e1' : fX5_tear 5000 σ (xs (j + 1)) (xs (j + 2)) = some (r, s1) := e1
      have e2' : fX6_tear 5000 s1 (xs (j + 1)) (xs (j + 2)) = some (r, s2) := e2
      rw [if_pos k20, e1', pu_call, e2', pu_call, if_pos rfl]
      exact fin0 s2 e3
    rw [if_neg k20]
    by_cases k21 : xs j &&& 63 = 21
    · obtain ⟨r, s1, s2, e1, e2, e3⟩ := e_fits hy h (xs (j + 1)) (xs (j + 2))
      have e1' : fX5_fits 5000 σ (xs (j + 1)) (xs (j + 2)) = some (r, s1) := e1
      have e2' : fX6_fits 5000 s1 (xs (j + 1)) (xs (j + 2)) = some (r, s2) := e2
      rw [if_pos k21, e1', pu_call, e2', pu_call, if_pos rfl]
      exact fin0 s2 e3
    rw [if_neg k21]
    by_cases k22 : xs j &&& 63 = 22
    · obtain ⟨r, s1, s2, e1, e2, e3⟩ := e_kinds hy h (xs (j + 1)) (xs (j + 2))
      have e1' : fX5_kinds 5000 σ (xs (j + 1)) (xs (j + 2)) = some (r, s1) := e1
      have e2' : fX6_kinds 5000 s1 (xs (j + 1)) (xs (j + 2)) = some (r, s2) := e2
      rw [if_pos k22, e1', pu_call, e2', pu_call, if_pos rfl]
      exact fin0 s2 e3
    rw [if_neg k22]
    by_cases k23 : xs j &&& 63 = 23
    · obtain ⟨r, s1, s2, e1, e2, e3⟩ := e_wakings hy h (xs (j + 1))
      have e1' : fX5_wakings 5000 σ (xs (j + 1)) = some (r, s1) := e1
      have e2' : fX6_wakings 5000 s1 (xs (j + 1)) = some (r, s2) := e2
      rw [if_pos k23, e1', pu_call, e2', pu_call, if_pos rfl]
      exact fin s2 e3
    rw [if_neg k23]
    by_cases k24 : xs j &&& 63 = 24
    · obtain ⟨r, s1, s2, e1, e2, e3⟩ := e_odds h (xs (j + 1)) (xs (j + 2)) (xs (j + 3))
      have e1' : fX5_odds 5000 σ (xs (j + 1)) (xs (j + 2)) (xs (j + 3)) = some (r, s1) := e1
      have e2' : fX6_odds 5000 s1 (xs (j + 1)) (xs (j + 2)) (xs (j + 3)) = some (r, s2) := e2
      rw [if_pos k24, e1', pu_call, e2', pu_call, if_pos (lg_rr r)]
      exact fin0 s2 e3
    rw [if_neg k24]
    by_cases k25 : xs j &&& 63 = 25
    · obtain ⟨r, s1, s2, e1, e2, e3⟩ := e_seed h (xs (j + 1))
      have e1' : fX5_seed 5000 σ (xs (j + 1)) = some (r, s1) := e1
      have e2' : fX6_seed 5000 s1 (xs (j + 1)) = some (r, s2) := e2
      rw [if_pos k25, e1', pu_call, e2', pu_call, if_pos rfl]
      exact fin0 s2 e3
    rw [if_neg k25]
    by_cases k26 : xs j &&& 63 = 26
    · obtain ⟨r, s1, s2, e1, e2, e3⟩ := e_feed h (xs (j + 1)) (xs (j + 2))
      have e1' : fX5_feed 5000 σ (xs (j + 1)) (xs (j + 2)) = some (r, s1) := e1
      have e2' : fX6_feed 5000 s1 (xs (j + 1)) (xs (j + 2)) = some (r, s2) := e2
      rw [if_pos k26, e1', pu_call, e2', pu_call, if_pos rfl]
      exact fin0 s2 e3
    rw [if_neg k26]
    by_cases k27 : xs j &&& 63 = 27
    · obtain ⟨r, s1, s2, e1, e2, e3⟩ := e_wipe h
      have e1' : fX5_wipe 5000 σ = some (r, s1) := e1
      have e2' : fX6_wipe 5000 s1 = some (r, s2) := e2
      rw [if_pos k27, e1', pu_call, e2', pu_call, if_pos rfl]
      exact fin0 s2 e3
    rw [if_neg k27]
    by_cases k28 : xs j &&& 63 = 28
    · obtain ⟨r, s1, s2, e1, e2, e3⟩ := e_text h
      have e1' : fX5_text 5000 σ = some (r, s1) := e1
      have e2' : fX6_text 5000 s1 = some (r, s2) := e2
      rw [if_pos k28, e1', pu_call, e2', pu_call, if_pos rfl]
      exact fin0 s2 e3
    rw [if_neg k28]
    by_cases k29 : xs j &&& 63 = 29
    · obtain ⟨r, s1, s2, e1, e2, e3⟩ := e_hold h (xs (j + 1)) (xs (j + 2))
      have e1' : fX5_hold 5000 σ (xs (j + 1)) (xs (j + 2)) = some (r, s1) := e1
      have e2' : fX6_hold 5000 s1 (xs (j + 1)) (xs (j + 2)) = some (r, s2) := e2
      rw [if_pos k29, e1', pu_call, e2', pu_call, if_pos rfl]
      exact fin0 s2 e3
    rw [if_neg k29]
    by_cases k30 : xs j &&& 63 = 30
    · obtain ⟨r, s1, s2, e1, e2, e3⟩ := e_as h (xs (j + 1)) (xs (j + 2))
      have e1' : fX5_as 5000 σ (xs (j + 1)) (xs (j + 2)) = some (r, s1) := e1
      have e2' : fX6_as 5000 s1 (xs (j + 1)) (xs (j + 2)) = some (r, s2) := e2
      rw [if_pos k30, e1', pu_call, e2', pu_call, if_pos rfl]
      exact fin0 s2 e3
    rw [if_neg k30]
    by_cases k31 : xs j &&& 63 = 31
    · obtain ⟨r, s1, s2, e1, e2, e3⟩ := e_sheet h (xs (j + 1)) (xs (j + 2)) (xs (j + 3))
      have e1' : fX5_sheet 5000 σ (xs (j + 1)) (xs (j + 2)) (xs (j + 3)) = some (r, s1) := e1
      have e2' : fX6_sheet 5000 s1 (xs (j + 1)) (xs (j + 2)) (xs (j + 3)) = some (r, s2) := e2
      rw [if_pos k31, e1', pu_call, e2', pu_call, if_pos rfl]
      exact fin0 s2 e3
    rw [if_neg k31]
    by_cases k32 : xs j &&& 63 = 32
    · obtain ⟨r, s1, s2, e1, e2, e3⟩ := e_write h (xs (j + 1)) (xs (j + 2)) (xs (j + 3))
      have e1' : fX5_write 5000 σ (xs (j + 1)) (xs (j + 2)) (xs (j + 3)) = some (r, s1) := e1
      have e2' : fX6_write 5000 s1 (xs (j + 1)) (xs (j + 2)) (xs (j + 3)) = some (r, s2) := e2
      rw [if_pos k32, e1', pu_call, e2', pu_call, if_pos rfl]
      exact fin0 s2 e3
    rw [if_neg k32]
    by_cases k33 : xs j &&& 63 = 33
    · obtain ⟨r, s1, s2, e1, e2, e3⟩ := e_copy h (xs (j + 1)) (xs (j + 2)) (xs (j + 3)) (xs (j + 4)) (xs (j + 5))
      have e1' : fX5_copy 5000 σ (xs (j + 1)) (xs (j + 2)) (xs (j + 3)) (xs (j + 4)) (xs (j + 5)) = some (r, s1) := e1
      have e2' : fX6_copy 5000 s1 (xs (j + 1)) (xs (j + 2)) (xs (j + 3)) (xs (j + 4)) (xs (j + 5)) = some (r, s2) := e2
      rw [if_pos k33, e1', pu_call, e2', pu_call, if_pos rfl]
      exact fin0 s2 e3
    rw [if_neg k33]
    by_cases k34 : xs j &&& 63 = 34
    · obtain ⟨r, s1, s2, e1, e2, e3⟩ := e_load h (xs (j + 1))
      have e1' : fX5_load 5000 σ (xs (j + 1)) = some (r, s1) := e1
      have e2' : fX6_load 5000 s1 (xs (j + 1)) = some (r, s2) := e2
      rw [if_pos k34, e1', pu_call, e2', pu_call, if_pos rfl]
      exact fin0 s2 e3
    rw [if_neg k34]
    by_cases k35 : xs j &&& 63 = 35
    · obtain ⟨r, s1, s2, e1, e2, e3⟩ := e_judge h (xs (j + 1))
      have e1' : fX5_judge 5000 σ (xs (j + 1)) = some (r, s1) := e1
      have e2' : fX6_judge 5000 s1 (xs (j + 1)) = some (r, s2) := e2
      rw [if_pos k35, e1', pu_call, e2', pu_call, if_pos rfl]
      exact fin0 s2 e3
    rw [if_neg k35]
    by_cases k36 : xs j &&& 63 = 36
    · obtain ⟨r, s1, s2, e1, e2, e3⟩ := e_image h
      have e1' : fX5_image 5000 σ = some (r, s1) := e1
      have e2' : fX6_image 5000 s1 = some (r, s2) := e2
      rw [if_pos k36, e1', pu_call, e2', pu_call, if_pos rfl]
      exact fin0 s2 e3
    rw [if_neg k36]
    by_cases k37 : xs j &&& 63 = 37
    · obtain ⟨r, s1, s2, e1, e2, e3⟩ := e_undo h
      have e1' : fX5_undo 5000 σ = some (r, s1) := e1
      have e2' : fX6_undo 5000 s1 = some (r, s2) := e2
      rw [if_pos k37, e1', pu_call, e2', pu_call, if_pos rfl]
      exact fin0 s2 e3
    rw [if_neg k37]
    by_cases k38 : xs j &&& 63 = 38
    · obtain ⟨r, s1, s2, e1, e2, e3⟩ := e_forget h
      have e1' : fX5_forget 5000 σ = some (r, s1) := e1
      have e2' : fX6_forget 5000 s1 = some (r, s2) := e2
      rw [if_pos k38, e1', pu_call, e2', pu_call, if_pos rfl]
      exact fin0 s2 e3
    rw [if_neg k38]
    by_cases k39 : xs j &&& 63 = 39
    · obtain ⟨r, s1, s2, e1, e2, e3⟩ := e_count h (xs (j + 1))
      have e1' : fX5_count 5000 σ (xs (j + 1)) = some (r, s1) := e1
      have e2' : fX6_count 5000 s1 (xs (j + 1)) = some (r, s2) := e2
      rw [if_pos k39, e1', pu_call, e2', pu_call, if_pos rfl]
      exact fin0 s2 e3
    rw [if_neg k39]
    by_cases k40 : xs j &&& 63 = 40
    · obtain ⟨r, s1, s2, e1, e2, e3⟩ := e_status h (xs (j + 1))
      have e1' : fX5_status 5000 σ (xs (j + 1)) = some (r, s1) := e1
      have e2' : fX6_status 5000 s1 (xs (j + 1)) = some (r, s2) := e2
      rw [if_pos k40, e1', pu_call, e2', pu_call, if_pos rfl]
      exact fin0 s2 e3
    rw [if_neg k40]
    exact fin0 σ h
theorem law_ok (L : Nat) (xs : Nat → Int32) (hL : L ≤ 3072) : ∃ σf : mt_St, bL_law_18 5000 L xs 5000 mt_s0 0 = some ((1 : Int32), σf) := lw_loop hL 512 0 5000 mt_s0 0 (by omega) (by omega) (by omega) (by omega) s0_RR
