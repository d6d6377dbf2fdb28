theorem dX0_take_0 : decode cX0_take 0 = .ok (.aload_n 0, 1) := by decide +kernel
theorem dX0_take_1 : decode cX0_take 1 = .ok (.getfield 15, 3) := by decide +kernel
theorem dX0_take_4 : decode cX0_take 4 = .ok (.bipush 120, 2) := by decide +kernel
theorem dX0_take_6 : decode cX0_take 6 = .ok (.if_icmp .ge 23, 3) := by decide +kernel
theorem dX0_take_9 : decode cX0_take 9 = .ok (.aload_n 0, 1) := by decide +kernel
theorem dX0_take_10 : decode cX0_take 10 = .ok (.getfield 9, 3) := by decide +kernel
theorem dX0_take_13 : decode cX0_take 13 = .ok (.aload_n 0, 1) := by decide +kernel
theorem dX0_take_14 : decode cX0_take 14 = .ok (.getfield 15, 3) := by decide +kernel
theorem dX0_take_17 : decode cX0_take 17 = .ok (.iload_n 1, 1) := by decide +kernel
theorem dX0_take_18 : decode cX0_take 18 = .ok (.bastore, 1) := by decide +kernel
theorem dX0_take_19 : decode cX0_take 19 = .ok (.aload_n 0, 1) := by decide +kernel
theorem dX0_take_20 : decode cX0_take 20 = .ok (.dup, 1) := by decide +kernel
theorem dX0_take_21 : decode cX0_take 21 = .ok (.getfield 15, 3) := by decide +kernel
theorem dX0_take_24 : decode cX0_take 24 = .ok (.iconst 1, 1) := by decide +kernel
theorem dX0_take_25 : decode cX0_take 25 = .ok (.iadd, 1) := by decide +kernel
theorem dX0_take_26 : decode cX0_take 26 = .ok (.putfield 15, 3) := by decide +kernel
theorem dX0_take_29 : decode cX0_take 29 = .ok (.return_, 1) := by decide +kernel
def bX0_take_29 (fu : Nat) (σ : mt_St) : Option (Unit × mt_St) :=
  some ((), σ)
set_option maxHeartbeats 4000000 in
set_option maxRecDepth 20000 in
theorem vX0_take_29 {K : mt_C} {fu : Nat} {r : Unit} {σf : mt_St} (hQ : mt_R K none none σf) : ∀ (σ : mt_St), mt_V K cX0_take RX0 2 0 σ 29 [] [] (bX0_take_29 fu σ = some (r, σf)) := by
  intro σ
  unfold bX0_take_29
  exact mv_vret hQ dX0_take_29
def fX0_take (fu : Nat) (σ : mt_St) (a1 : Int32) : Option (Unit × mt_St) :=
  if (120 : Int32) ≤ (σ 44 1) then
    bX0_take_29 fu σ
  else
    mt_chk (mt_in (σ 44 1) 120) <|
    mt_bnd (mt_up σ 45 (Int32.toNatClampNeg (σ 44 1)) (vp_nar .byte a1)) fun s1 =>
    mt_bnd (mt_up s1 44 1 ((s1 44 1) + (1 : Int32))) fun s2 =>
    bX0_take_29 fu s2
set_option maxHeartbeats 4000000 in
set_option maxRecDepth 20000 in
theorem vX0_take {K : mt_C} {fu : Nat} {σ : mt_St} {a1 : Int32} {r : Unit} {σf : mt_St} (hQ : mt_R K none none σf) : mt_V K cX0_take RX0 2 0 σ 0 [(0, .ref (mt_adr (kG K) 44)), (1, .int a1)] [] (fX0_take fu σ a1 = some (r, σf)) := by
  unfold fX0_take
  refine mv_aload_n 0 dX0_take_0 rfl rfl ?_
  refine mg_X0_1 fl_X0_15 dX0_take_1 ?_
  refine mv_bipush (v := 120) dX0_take_4 bp_120 ?_
  refine mv_icmp_ge 29 dX0_take_6 (by decide) ?_ ?_
  · refine mv_sub (lv' := []) [] rfl ?_
    exact vX0_take_29 hQ σ
  · refine mv_aload_n 0 dX0_take_9 rfl rfl ?_
    refine mg_X0_0 fl_X0_9 dX0_take_10 ?_
    refine mv_aload_n 0 dX0_take_13 rfl rfl ?_
    refine mg_X0_1 fl_X0_15 dX0_take_14 ?_
    refine mv_iload_n 1 dX0_take_17 rfl rfl ?_
    refine mv_bast 120 rfl rfl dX0_take_18 (fun s1 => ?_)
    refine mv_aload_n 0 dX0_take_19 rfl rfl ?_
    refine mv_dup dX0_take_20 rfl ?_
    refine mg_X0_1 fl_X0_15 dX0_take_21 ?_
    refine mv_iconst (v := 1) dX0_take_24 ic_1 ?_
    refine mv_iadd dX0_take_25 ?_
    refine mp_X0_1 fl_X0_15 dX0_take_26 (fun s2 => ?_)
    refine mv_sub (lv' := []) [] rfl ?_
    exact vX0_take_29 hQ s2
theorem co_X0_take {l : Launch} {G : mt_G} {fu : Nat} {σ : mt_St} {a1 : Int32} {r : Unit} {σf : mt_St}  (h : fX0_take fu σ a1 = some (r, σf)) : mt_Con l G yX0_take cX0_take 2 none 0 [.ref (mt_adr G 44), .int a1] σ none σf :=
  mt_con (by decide) (Nat.le_of_ble_eq_true rfl) (fun K hl hG hQ => by subst hl; subst hG; exact fun _ => vX0_take  hQ h)
theorem dX0_isLetter_0 : decode cX0_isLetter 0 = .ok (.iload_n 0, 1) := by decide +kernel
theorem dX0_isLetter_1 : decode cX0_isLetter 1 = .ok (.bipush 97, 2) := by decide +kernel
theorem dX0_isLetter_3 : decode cX0_isLetter 3 = .ok (.if_icmp .lt 13, 3) := by decide +kernel
theorem dX0_isLetter_6 : decode cX0_isLetter 6 = .ok (.iload_n 0, 1) := by decide +kernel
theorem dX0_isLetter_7 : decode cX0_isLetter 7 = .ok (.bipush 122, 2) := by decide +kernel
theorem dX0_isLetter_9 : decode cX0_isLetter 9 = .ok (.if_icmp .gt 7, 3) := by decide +kernel
theorem dX0_isLetter_12 : decode cX0_isLetter 12 = .ok (.iconst 1, 1) := by decide +kernel
theorem dX0_isLetter_13 : decode cX0_isLetter 13 = .ok (.goto 4, 3) := by decide +kernel
theorem dX0_isLetter_16 : decode cX0_isLetter 16 = .ok (.iconst 0, 1) := by decide +kernel
theorem dX0_isLetter_17 : decode cX0_isLetter 17 = .ok (.ireturn, 1) := by decide +kernel
def bX0_isLetter_17 (fu : Nat) (y0 : Int32) : Option Int32 :=
  mt_chk (mt_b01 y0) (some y0)
set_option maxHeartbeats 4000000 in
set_option maxRecDepth 20000 in
theorem vX0_isLetter_17 {K : mt_C} {fu : Nat} {σ : mt_St} {r : Int32} (hQ : mt_R K (some .boolean) (some (.int r)) σ) : ∀ (y0 : Int32), mt_V K cX0_isLetter RX0 1 0 σ 17 [] [.int y0] (bX0_isLetter_17 fu y0 = some r) := by
  intro y0
  unfold bX0_isLetter_17
  exact mv_zretr hQ dX0_isLetter_17
def bX0_isLetter_16 (fu : Nat) : Option Int32 :=
  bX0_isLetter_17 fu (0 : Int32)
set_option maxHeartbeats 4000000 in
set_option maxRecDepth 20000 in
theorem vX0_isLetter_16 {K : mt_C} {fu : Nat} {σ : mt_St} {r : Int32} (hQ : mt_R K (some .boolean) (some (.int r)) σ) : mt_V K cX0_isLetter RX0 1 0 σ 16 [] [] (bX0_isLetter_16 fu = some r) := by
  unfold bX0_isLetter_16
  refine mv_iconst (v := 0) dX0_isLetter_16 ic_0 ?_
  exact vX0_isLetter_17 hQ (0 : Int32)
def fX0_isLetter (fu : Nat) (a1 : Int32) : Option Int32 :=
  if a1 < (97 : Int32) then
    bX0_isLetter_16 fu
  else
    if (122 : Int32) < a1 then
      bX0_isLetter_16 fu
    else
      bX0_isLetter_17 fu (1 : Int32)
set_option maxHeartbeats 4000000 in
set_option maxRecDepth 20000 in
theorem vX0_isLetter {K : mt_C} {fu : Nat} {σ : mt_St} {a1 : Int32} {r : Int32} (hQ : mt_R K (some .boolean) (some (.int r)) σ) : mt_V K cX0_isLetter RX0 1 0 σ 0 [(0, .int a1)] [] (fX0_isLetter fu a1 = some r) := by
  unfold fX0_isLetter
  refine mv_iload_n 0 dX0_isLetter_0 rfl rfl ?_
  refine mv_bipush (v := 97) dX0_isLetter_1 bp_97 ?_
  refine mv_icmp_lt 16 dX0_isLetter_3 (by decide) ?_ ?_
  · refine mv_sub (lv' := []) [] rfl ?_
    exact vX0_isLetter_16 hQ
  · refine mv_iload_n 0 dX0_isLetter_6 rfl rfl ?_
    refine mv_bipush (v := 122) dX0_isLetter_7 bp_122 ?_
    refine mv_icmp_gt 16 dX0_isLetter_9 (by decide) ?_ ?_
    · refine mv_sub (lv' := []) [] rfl ?_
      exact vX0_isLetter_16 hQ
    · refine mv_iconst (v := 1) dX0_isLetter_12 ic_1 ?_
      refine mv_goto 17 dX0_isLetter_13 (by decide) ?_
      refine mv_sub (lv' := []) [] rfl ?_
      exact vX0_isLetter_17 hQ (1 : Int32)
theorem co_X0_isLetter {l : Launch} {G : mt_G} {fu : Nat} {σ : mt_St} {a1 : Int32} {r : Int32}  (h : fX0_isLetter fu a1 = some r) : mt_Con l G yX0_isLetter cX0_isLetter 1 (some .boolean) 0 [.int a1] σ (some (.int r)) σ :=
  mt_con (by decide) (Nat.le_of_ble_eq_true rfl) (fun K hl hG hQ => by subst hl; subst hG; exact fun _ => vX0_isLetter  hQ h)
theorem dX0_advanceLetters_0 : decode cX0_advanceLetters 0 = .ok (.aload_n 0, 1) := by decide +kernel
theorem dX0_advanceLetters_1 : decode cX0_advanceLetters 1 = .ok (.getfield 25, 3) := by decide +kernel
theorem dX0_advanceLetters_4 : decode cX0_advanceLetters 4 = .ok (.aload_n 0, 1) := by decide +kernel
theorem dX0_advanceLetters_5 : decode cX0_advanceLetters 5 = .ok (.getfield 15, 3) := by decide +kernel
theorem dX0_advanceLetters_8 : decode cX0_advanceLetters 8 = .ok (.if_icmp .ge 31, 3) := by decide +kernel
theorem dX0_advanceLetters_11 : decode cX0_advanceLetters 11 = .ok (.aload_n 0, 1) := by decide +kernel
theorem dX0_advanceLetters_12 : decode cX0_advanceLetters 12 = .ok (.getfield 9, 3) := by decide +kernel
theorem dX0_advanceLetters_15 : decode cX0_advanceLetters 15 = .ok (.aload_n 0, 1) := by decide +kernel
theorem dX0_advanceLetters_16 : decode cX0_advanceLetters 16 = .ok (.getfield 25, 3) := by decide +kernel
theorem dX0_advanceLetters_19 : decode cX0_advanceLetters 19 = .ok (.baload, 1) := by decide +kernel
theorem dX0_advanceLetters_20 : decode cX0_advanceLetters 20 = .ok (.invokestatic 128, 3) := by decide +kernel
theorem dX0_advanceLetters_23 : decode cX0_advanceLetters 23 = .ok (.ifCond .eq 16, 3) := by decide +kernel
theorem dX0_advanceLetters_26 : decode cX0_advanceLetters 26 = .ok (.aload_n 0, 1) := by decide +kernel
theorem dX0_advanceLetters_27 : decode cX0_advanceLetters 27 = .ok (.dup, 1) := by decide +kernel
theorem dX0_advanceLetters_28 : decode cX0_advanceLetters 28 = .ok (.getfield 25, 3) := by decide +kernel
theorem dX0_advanceLetters_31 : decode cX0_advanceLetters 31 = .ok (.iconst 1, 1) := by decide +kernel
theorem dX0_advanceLetters_32 : decode cX0_advanceLetters 32 = .ok (.iadd, 1) := by decide +kernel
theorem dX0_advanceLetters_33 : decode cX0_advanceLetters 33 = .ok (.putfield 25, 3) := by decide +kernel
theorem dX0_advanceLetters_36 : decode cX0_advanceLetters 36 = .ok (.goto (-36), 3) := by decide +kernel
theorem dX0_advanceLetters_39 : decode cX0_advanceLetters 39 = .ok (.return_, 1) := by decide +kernel
def bX0_advanceLetters_39 (fu : Nat) (σ : mt_St) : Option (Unit × mt_St) :=
  some ((), σ)
set_option maxHeartbeats 4000000 in
set_option maxRecDepth 20000 in
theorem vX0_advanceLetters_39 {K : mt_C} {fu : Nat} {r : Unit} {σf : mt_St} (hQ : mt_R K none none σf) : ∀ (σ : mt_St), mt_V K cX0_advanceLetters RX0 1 1 σ 39 [] [] (bX0_advanceLetters_39 fu σ = some (r, σf)) := by
  intro σ
  unfold bX0_advanceLetters_39
  exact mv_vret hQ dX0_advanceLetters_39
def bX0_advanceLetters_0 (fu : Nat) : Nat → mt_St → Option (Unit × mt_St)
  | 0, _ => none
  | n + 1, σ =>
    if (σ 44 1) ≤ (σ 44 4) then
      bX0_advanceLetters_39 fu σ
    else
      mt_chk (mt_in (σ 44 4) 120) <|
      mt_ask (fX0_isLetter fu (σ 45 (Int32.toNatClampNeg (σ 44 4)))) fun r1 =>
      if r1 = 0 then
        bX0_advanceLetters_39 fu σ
      else
        mt_bnd (mt_up σ 44 4 ((σ 44 4) + (1 : Int32))) fun s2 =>
        bX0_advanceLetters_0 fu n s2
set_option maxHeartbeats 4000000 in
set_option maxRecDepth 20000 in
theorem vX0_advanceLetters_0 {K : mt_C} {fu : Nat} {r : Unit} {σf : mt_St} (hQ : mt_R K none none σf) : ∀ (n : Nat) (σ : mt_St), mt_V K cX0_advanceLetters RX0 1 1 σ 0 [(0, .ref (mt_adr (kG K) 44))] [] (bX0_advanceLetters_0 fu n σ = some (r, σf)) := by
  intro n
  induction n with
  | zero => intro σ; intro hP; unfold bX0_advanceLetters_0 at hP; cases hP
  | succ n ih =>
    intro σ
    unfold bX0_advanceLetters_0
    refine mv_aload_n 0 dX0_advanceLetters_0 rfl rfl ?_
    refine mg_X0_4 fl_X0_25 dX0_advanceLetters_1 ?_
    refine mv_aload_n 0 dX0_advanceLetters_4 rfl rfl ?_
    refine mg_X0_1 fl_X0_15 dX0_advanceLetters_5 ?_
    refine mv_icmp_ge 39 dX0_advanceLetters_8 (by decide) ?_ ?_
    · refine mv_sub (lv' := []) [] rfl ?_
      exact vX0_advanceLetters_39 hQ σ
    · refine mv_aload_n 0 dX0_advanceLetters_11 rfl rfl ?_
      refine mg_X0_0 fl_X0_9 dX0_advanceLetters_12 ?_
      refine mv_aload_n 0 dX0_advanceLetters_15 rfl rfl ?_
      refine mg_X0_4 fl_X0_25 dX0_advanceLetters_16 ?_
      refine mv_bald 120 rfl rfl dX0_advanceLetters_19 ?_
      refine mv_cSri (As := [.int (σ 45 (Int32.toNatClampNeg (σ 44 4)))]) (st := []) cal_X0_isLetter sta_X0_isLetter ml_X0_128 rfl (by decide) rfl (Nat.le_of_ble_eq_true rfl) dX0_advanceLetters_20 (fun r h => co_X0_isLetter h) (fun r1 => ?_)
      refine mv_if_eq 39 dX0_advanceLetters_23 (by decide) ?_ ?_
      · refine mv_sub (lv' := []) [] rfl ?_
        exact vX0_advanceLetters_39 hQ σ
      · refine mv_aload_n 0 dX0_advanceLetters_26 rfl rfl ?_
        refine mv_dup dX0_advanceLetters_27 rfl ?_
        refine mg_X0_4 fl_X0_25 dX0_advanceLetters_28 ?_
        refine mv_iconst (v := 1) dX0_advanceLetters_31 ic_1 ?_
        refine mv_iadd dX0_advanceLetters_32 ?_
        refine mp_X0_4 fl_X0_25 dX0_advanceLetters_33 (fun s2 => ?_)
        refine mv_goto 0 dX0_advanceLetters_36 (by decide) ?_
        exact ih s2
def fX0_advanceLetters (fu : Nat) (σ : mt_St) : Option (Unit × mt_St) :=
  bX0_advanceLetters_0 fu fu σ
set_option maxHeartbeats 4000000 in
set_option maxRecDepth 20000 in
theorem vX0_advanceLetters {K : mt_C} {fu : Nat} {σ : mt_St} {r : Unit} {σf : mt_St} (hQ : mt_R K none none σf) : mt_V K cX0_advanceLetters RX0 1 1 σ 0 [(0, .ref (mt_adr (kG K) 44))] [] (fX0_advanceLetters fu σ = some (r, σf)) := by
  unfold fX0_advanceLetters
  exact vX0_advanceLetters_0 hQ fu σ
theorem co_X0_advanceLetters {l : Launch} {G : mt_G} {fu : Nat} {σ : mt_St} {r : Unit} {σf : mt_St}  (h : fX0_advanceLetters fu σ = some (r, σf)) : mt_Con l G yX0_advanceLetters cX0_advanceLetters 1 none 1 [.ref (mt_adr G 44)] σ none σf :=
  mt_con (by decide) (Nat.le_of_ble_eq_true rfl) (fun K hl hG hQ => by subst hl; subst hG; exact fun _ => vX0_advanceLetters  hQ h)
theorem dX0_isDigit_0 : decode cX0_isDigit 0 = .ok (.iload_n 0, 1) := by decide +kernel
theorem dX0_isDigit_1 : decode cX0_isDigit 1 = .ok (.bipush 48, 2) := by decide +kernel
theorem dX0_isDigit_3 : decode cX0_isDigit 3 = .ok (.if_icmp .lt 13, 3) := by decide +kernel
theorem dX0_isDigit_6 : decode cX0_isDigit 6 = .ok (.iload_n 0, 1) := by decide +kernel
theorem dX0_isDigit_7 : decode cX0_isDigit 7 = .ok (.bipush 57, 2) := by decide +kernel
theorem dX0_isDigit_9 : decode cX0_isDigit 9 = .ok (.if_icmp .gt 7, 3) := by decide +kernel
theorem dX0_isDigit_12 : decode cX0_isDigit 12 = .ok (.iconst 1, 1) := by decide +kernel
theorem dX0_isDigit_13 : decode cX0_isDigit 13 = .ok (.goto 4, 3) := by decide +kernel
theorem dX0_isDigit_16 : decode cX0_isDigit 16 = .ok (.iconst 0, 1) := by decide +kernel
theorem dX0_isDigit_17 : decode cX0_isDigit 17 = .ok (.ireturn, 1) := by decide +kernel
def bX0_isDigit_17 (fu : Nat) (y0 : Int32) : Option Int32 :=
  mt_chk (mt_b01 y0) (some y0)
set_option maxHeartbeats 4000000 in
set_option maxRecDepth 20000 in
theorem vX0_isDigit_17 {K : mt_C} {fu : Nat} {σ : mt_St} {r : Int32} (hQ : mt_R K (some .boolean) (some (.int r)) σ) : ∀ (y0 : Int32), mt_V K cX0_isDigit RX0 1 0 σ 17 [] [.int y0] (bX0_isDigit_17 fu y0 = some r) := by
  intro y0
  unfold bX0_isDigit_17
  exact mv_zretr hQ dX0_isDigit_17
def bX0_isDigit_16 (fu : Nat) : Option Int32 :=
  bX0_isDigit_17 fu (0 : Int32)
set_option maxHeartbeats 4000000 in
set_option maxRecDepth 20000 in
theorem vX0_isDigit_16 {K : mt_C} {fu : Nat} {σ : mt_St} {r : Int32} (hQ : mt_R K (some .boolean) (some (.int r)) σ) : mt_V K cX0_isDigit RX0 1 0 σ 16 [] [] (bX0_isDigit_16 fu = some r) := by
  unfold bX0_isDigit_16
  refine mv_iconst (v := 0) dX0_isDigit_16 ic_0 ?_
  exact vX0_isDigit_17 hQ (0 : Int32)
def fX0_isDigit (fu : Nat) (a1 : Int32) : Option Int32 :=
  if a1 < (48 : Int32) then
    bX0_isDigit_16 fu
  else
    if (57 : Int32) < a1 then
      bX0_isDigit_16 fu
    else
      bX0_isDigit_17 fu (1 : Int32)
set_option maxHeartbeats 4000000 in
set_option maxRecDepth 20000 in
theorem vX0_isDigit {K : mt_C} {fu : Nat} {σ : mt_St} {a1 : Int32} {r : Int32} (hQ : mt_R K (some .boolean) (some (.int r)) σ) : mt_V K cX0_isDigit RX0 1 0 σ 0 [(0, .int a1)] [] (fX0_isDigit fu a1 = some r) := by
  unfold fX0_isDigit
  refine mv_iload_n 0 dX0_isDigit_0 rfl rfl ?_
  refine mv_bipush (v := 48) dX0_isDigit_1 bp_48 ?_
  refine mv_icmp_lt 16 dX0_isDigit_3 (by decide) ?_ ?_
  · refine mv_sub (lv' := []) [] rfl ?_
    exact vX0_isDigit_16 hQ
  · refine mv_iload_n 0 dX0_isDigit_6 rfl rfl ?_
    refine mv_bipush (v := 57) dX0_isDigit_7 bp_57 ?_
    refine mv_icmp_gt 16 dX0_isDigit_9 (by decide) ?_ ?_
    · refine mv_sub (lv' := []) [] rfl ?_
      exact vX0_isDigit_16 hQ
    · refine mv_iconst (v := 1) dX0_isDigit_12 ic_1 ?_
      refine mv_goto 17 dX0_isDigit_13 (by decide) ?_
      refine mv_sub (lv' := []) [] rfl ?_
      exact vX0_isDigit_17 hQ (1 : Int32)
theorem co_X0_isDigit {l : Launch} {G : mt_G} {fu : Nat} {σ : mt_St} {a1 : Int32} {r : Int32}  (h : fX0_isDigit fu a1 = some r) : mt_Con l G yX0_isDigit cX0_isDigit 1 (some .boolean) 0 [.int a1] σ (some (.int r)) σ :=
  mt_con (by decide) (Nat.le_of_ble_eq_true rfl) (fun K hl hG hQ => by subst hl; subst hG; exact fun _ => vX0_isDigit  hQ h)
theorem dX0_advanceDigits_0 : decode cX0_advanceDigits 0 = .ok (.aload_n 0, 1) := by decide +kernel
theorem dX0_advanceDigits_1 : decode cX0_advanceDigits 1 = .ok (.getfield 25, 3) := by decide +kernel
theorem dX0_advanceDigits_4 : decode cX0_advanceDigits 4 = .ok (.aload_n 0, 1) := by decide +kernel
theorem dX0_advanceDigits_5 : decode cX0_advanceDigits 5 = .ok (.getfield 15, 3) := by decide +kernel
theorem dX0_advanceDigits_8 : decode cX0_advanceDigits 8 = .ok (.if_icmp .ge 65, 3) := by decide +kernel
theorem dX0_advanceDigits_11 : decode cX0_advanceDigits 11 = .ok (.aload_n 0, 1) := by decide +kernel
theorem dX0_advanceDigits_12 : decode cX0_advanceDigits 12 = .ok (.getfield 9, 3) := by decide +kernel
theorem dX0_advanceDigits_15 : decode cX0_advanceDigits 15 = .ok (.aload_n 0, 1) := by decide +kernel
theorem dX0_advanceDigits_16 : decode cX0_advanceDigits 16 = .ok (.getfield 25, 3) := by decide +kernel
theorem dX0_advanceDigits_19 : decode cX0_advanceDigits 19 = .ok (.baload, 1) := by decide +kernel
theorem dX0_advanceDigits_20 : decode cX0_advanceDigits 20 = .ok (.invokestatic 134, 3) := by decide +kernel
theorem dX0_advanceDigits_23 : decode cX0_advanceDigits 23 = .ok (.ifCond .eq 50, 3) := by decide +kernel
theorem dX0_advanceDigits_26 : decode cX0_advanceDigits 26 = .ok (.aload_n 0, 1) := by decide +kernel
theorem dX0_advanceDigits_27 : decode cX0_advanceDigits 27 = .ok (.getfield 28, 3) := by decide +kernel
theorem dX0_advanceDigits_30 : decode cX0_advanceDigits 30 = .ok (.sipush 9999, 3) := by decide +kernel
theorem dX0_advanceDigits_33 : decode cX0_advanceDigits 33 = .ok (.if_icmp .gt 27, 3) := by decide +kernel
theorem dX0_advanceDigits_36 : decode cX0_advanceDigits 36 = .ok (.aload_n 0, 1) := by decide +kernel
theorem dX0_advanceDigits_37 : decode cX0_advanceDigits 37 = .ok (.aload_n 0, 1) := by decide +kernel
theorem dX0_advanceDigits_38 : decode cX0_advanceDigits 38 = .ok (.getfield 28, 3) := by decide +kernel
theorem dX0_advanceDigits_41 : decode cX0_advanceDigits 41 = .ok (.bipush 10, 2) := by decide +kernel
theorem dX0_advanceDigits_43 : decode cX0_advanceDigits 43 = .ok (.imul, 1) := by decide +kernel
theorem dX0_advanceDigits_44 : decode cX0_advanceDigits 44 = .ok (.aload_n 0, 1) := by decide +kernel
theorem dX0_advanceDigits_45 : decode cX0_advanceDigits 45 = .ok (.getfield 9, 3) := by decide +kernel
theorem dX0_advanceDigits_48 : decode cX0_advanceDigits 48 = .ok (.aload_n 0, 1) := by decide +kernel
theorem dX0_advanceDigits_49 : decode cX0_advanceDigits 49 = .ok (.getfield 25, 3) := by decide +kernel
theorem dX0_advanceDigits_52 : decode cX0_advanceDigits 52 = .ok (.baload, 1) := by decide +kernel
theorem dX0_advanceDigits_53 : decode cX0_advanceDigits 53 = .ok (.iadd, 1) := by decide +kernel
theorem dX0_advanceDigits_54 : decode cX0_advanceDigits 54 = .ok (.bipush 48, 2) := by decide +kernel
theorem dX0_advanceDigits_56 : decode cX0_advanceDigits 56 = .ok (.isub, 1) := by decide +kernel
theorem dX0_advanceDigits_57 : decode cX0_advanceDigits 57 = .ok (.putfield 28, 3) := by decide +kernel
theorem dX0_advanceDigits_60 : decode cX0_advanceDigits 60 = .ok (.aload_n 0, 1) := by decide +kernel
theorem dX0_advanceDigits_61 : decode cX0_advanceDigits 61 = .ok (.dup, 1) := by decide +kernel
theorem dX0_advanceDigits_62 : decode cX0_advanceDigits 62 = .ok (.getfield 25, 3) := by decide +kernel
theorem dX0_advanceDigits_65 : decode cX0_advanceDigits 65 = .ok (.iconst 1, 1) := by decide +kernel
theorem dX0_advanceDigits_66 : decode cX0_advanceDigits 66 = .ok (.iadd, 1) := by decide +kernel
theorem dX0_advanceDigits_67 : decode cX0_advanceDigits 67 = .ok (.putfield 25, 3) := by decide +kernel
theorem dX0_advanceDigits_70 : decode cX0_advanceDigits 70 = .ok (.goto (-70), 3) := by decide +kernel
theorem dX0_advanceDigits_73 : decode cX0_advanceDigits 73 = .ok (.return_, 1) := by decide +kernel
def bX0_advanceDigits_73 (fu : Nat) (σ : mt_St) : Option (Unit × mt_St) :=
  some ((), σ)
set_option maxHeartbeats 4000000 in
set_option maxRecDepth 20000 in
theorem vX0_advanceDigits_73 {K : mt_C} {fu : Nat} {r : Unit} {σf : mt_St} (hQ : mt_R K none none σf) : ∀ (σ : mt_St), mt_V K cX0_advanceDigits RX0 1 1 σ 73 [] [] (bX0_advanceDigits_73 fu σ = some (r, σf)) := by
  intro σ
  unfold bX0_advanceDigits_73
  exact mv_vret hQ dX0_advanceDigits_73
def bX0_advanceDigits_60 (fu : Nat) (k0 : mt_St → Option (Unit × mt_St)) (σ : mt_St) : Option (Unit × mt_St) :=
  mt_bnd (mt_up σ 44 4 ((σ 44 4) + (1 : Int32))) fun s1 =>
  k0 s1
set_option maxHeartbeats 4000000 in
set_option maxRecDepth 20000 in
theorem vX0_advanceDigits_60 {K : mt_C} {fu : Nat} {r : Unit} {σf : mt_St} (hQ : mt_R K none none σf) {k0 : mt_St → Option (Unit × mt_St)} (hk0 : ∀ (s0 : mt_St), mt_V K cX0_advanceDigits RX0 1 1 s0 0 [(0, .ref (mt_adr (kG K) 44))] [] (k0 s0 = some (r, σf))) : ∀ (σ : mt_St), mt_V K cX0_advanceDigits RX0 1 1 σ 60 [(0, .ref (mt_adr (kG K) 44))] [] (bX0_advanceDigits_60 fu k0 σ = some (r, σf)) := by
  intro σ
  unfold bX0_advanceDigits_60
  refine mv_aload_n 0 dX0_advanceDigits_60 rfl rfl ?_
  refine mv_dup dX0_advanceDigits_61 rfl ?_
  refine mg_X0_4 fl_X0_25 dX0_advanceDigits_62 ?_
  refine mv_iconst (v := 1) dX0_advanceDigits_65 ic_1 ?_
  refine mv_iadd dX0_advanceDigits_66 ?_
  refine mp_X0_4 fl_X0_25 dX0_advanceDigits_67 (fun s1 => ?_)
  refine mv_goto 0 dX0_advanceDigits_70 (by decide) ?_
  exact hk0 s1
def bX0_advanceDigits_0 (fu : Nat) : Nat → mt_St → Option (Unit × mt_St)
  | 0, _ => none
  | n + 1, σ =>
    if (σ 44 1) ≤ (σ 44 4) then
      bX0_advanceDigits_73 fu σ
    else
      mt_chk (mt_in (σ 44 4) 120) <|
      mt_ask (fX0_isDigit fu (σ 45 (Int32.toNatClampNeg (σ 44 4)))) fun r1 =>
      if r1 = 0 then
        bX0_advanceDigits_73 fu σ
      else
        if (9999 : Int32) < (σ 44 5) then
          bX0_advanceDigits_60 fu (fun s0 => bX0_advanceDigits_0 fu n s0) σ
        else
          mt_chk (mt_in (σ 44 4) 120) <|
          mt_bnd (mt_up σ 44 5 ((((σ 44 5) * (10 : Int32)) + (σ 45 (Int32.toNatClampNeg (σ 44 4)))) - (48 : Int32))) fun s2 =>
          bX0_advanceDigits_60 fu (fun s0 => bX0_advanceDigits_0 fu n s0) s2
set_option maxHeartbeats 4000000 in
set_option maxRecDepth 20000 in
theorem vX0_advanceDigits_0 {K : mt_C} {fu : Nat} {r : Unit} {σf : mt_St} (hQ : mt_R K none none σf) : ∀ (n : Nat) (σ : mt_St), mt_V K cX0_advanceDigits RX0 1 1 σ 0 [(0, .ref (mt_adr (kG K) 44))] [] (bX0_advanceDigits_0 fu n σ = some (r, σf)) := by
  intro n
  induction n with
  | zero => intro σ; intro hP; unfold bX0_advanceDigits_0 at hP; cases hP
  | succ n ih =>
    intro σ
    unfold bX0_advanceDigits_0
    refine mv_aload_n 0 dX0_advanceDigits_0 rfl rfl ?_
    refine mg_X0_4 fl_X0_25 dX0_advanceDigits_1 ?_
    refine mv_aload_n 0 dX0_advanceDigits_4 rfl rfl ?_
    refine mg_X0_1 fl_X0_15 dX0_advanceDigits_5 ?_
    refine mv_icmp_ge 73 dX0_advanceDigits_8 (by decide) ?_ ?_
    · refine mv_sub (lv' := []) [] rfl ?_
      exact vX0_advanceDigits_73 hQ σ
    · refine mv_aload_n 0 dX0_advanceDigits_11 rfl rfl ?_
      refine mg_X0_0 fl_X0_9 dX0_advanceDigits_12 ?_
      refine mv_aload_n 0 dX0_advanceDigits_15 rfl rfl ?_
      refine mg_X0_4 fl_X0_25 dX0_advanceDigits_16 ?_
      refine mv_bald 120 rfl rfl dX0_advanceDigits_19 ?_
      refine mv_cSri (As := [.int (σ 45 (Int32.toNatClampNeg (σ 44 4)))]) (st := []) cal_X0_isDigit sta_X0_isDigit ml_X0_134 rfl (by decide) rfl (Nat.le_of_ble_eq_true rfl) dX0_advanceDigits_20 (fun r h => co_X0_isDigit h) (fun r1 => ?_)
      refine mv_if_eq 73 dX0_advanceDigits_23 (by decide) ?_ ?_
      · refine mv_sub (lv' := []) [] rfl ?_
        exact vX0_advanceDigits_73 hQ σ
      · refine mv_aload_n 0 dX0_advanceDigits_26 rfl rfl ?_
        refine mg_X0_5 fl_X0_28 dX0_advanceDigits_27 ?_
        refine mv_sipush (v := 9999) dX0_advanceDigits_30 sp_9999 ?_
        refine mv_icmp_gt 60 dX0_advanceDigits_33 (by decide) ?_ ?_
        · exact vX0_advanceDigits_60 hQ (fun s0 => ih s0) σ
        · refine mv_aload_n 0 dX0_advanceDigits_36 rfl rfl ?_
          refine mv_aload_n 0 dX0_advanceDigits_37 rfl rfl ?_
          refine mg_X0_5 fl_X0_28 dX0_advanceDigits_38 ?_
          refine mv_bipush (v := 10) dX0_advanceDigits_41 bp_10 ?_
          refine mv_imul dX0_advanceDigits_43 ?_
          refine mv_aload_n 0 dX0_advanceDigits_44 rfl rfl ?_
          refine mg_X0_0 fl_X0_9 dX0_advanceDigits_45 ?_
          refine mv_aload_n 0 dX0_advanceDigits_48 rfl rfl ?_
          refine mg_X0_4 fl_X0_25 dX0_advanceDigits_49 ?_
          refine mv_bald 120 rfl rfl dX0_advanceDigits_52 ?_
          refine mv_iadd dX0_advanceDigits_53 ?_
          refine mv_bipush (v := 48) dX0_advanceDigits_54 bp_48 ?_
          refine mv_isub dX0_advanceDigits_56 ?_
          refine mp_X0_5 fl_X0_28 dX0_advanceDigits_57 (fun s2 => ?_)
          exact vX0_advanceDigits_60 hQ (fun s0 => ih s0) s2
def fX0_advanceDigits (fu : Nat) (σ : mt_St) : Option (Unit × mt_St) :=
  bX0_advanceDigits_0 fu fu σ
set_option maxHeartbeats 4000000 in
set_option maxRecDepth 20000 in
theorem vX0_advanceDigits {K : mt_C} {fu : Nat} {σ : mt_St} {r : Unit} {σf : mt_St} (hQ : mt_R K none none σf) : mt_V K cX0_advanceDigits RX0 1 1 σ 0 [(0, .ref (mt_adr (kG K) 44))] [] (fX0_advanceDigits fu σ = some (r, σf)) := by
  unfold fX0_advanceDigits
  exact vX0_advanceDigits_0 hQ fu σ
theorem co_X0_advanceDigits {l : Launch} {G : mt_G} {fu : Nat} {σ : mt_St} {r : Unit} {σf : mt_St}  (h : fX0_advanceDigits fu σ = some (r, σf)) : mt_Con l G yX0_advanceDigits cX0_advanceDigits 1 none 1 [.ref (mt_adr G 44)] σ none σf :=
  mt_con (by decide) (Nat.le_of_ble_eq_true rfl) (fun K hl hG hQ => by subst hl; subst hG; exact fun _ => vX0_advanceDigits  hQ h)
theorem dX0_advance_0 : decode cX0_advance 0 = .ok (.aload_n 0, 1) := by decide +kernel
theorem dX0_advance_1 : decode cX0_advance 1 = .ok (.aload_n 0, 1) := by decide +kernel
theorem dX0_advance_2 : decode cX0_advance 2 = .ok (.getfield 25, 3) := by decide +kernel
theorem dX0_advance_5 : decode cX0_advance 5 = .ok (.putfield 22, 3) := by decide +kernel
theorem dX0_advance_8 : decode cX0_advance 8 = .ok (.aload_n 0, 1) := by decide +kernel
theorem dX0_advance_9 : decode cX0_advance 9 = .ok (.getfield 22, 3) := by decide +kernel
theorem dX0_advance_12 : decode cX0_advance 12 = .ok (.aload_n 0, 1) := by decide +kernel
theorem dX0_advance_13 : decode cX0_advance 13 = .ok (.getfield 15, 3) := by decide +kernel
theorem dX0_advance_16 : decode cX0_advance 16 = .ok (.if_icmp .ge 30, 3) := by decide +kernel
theorem dX0_advance_19 : decode cX0_advance 19 = .ok (.aload_n 0, 1) := by decide +kernel
theorem dX0_advance_20 : decode cX0_advance 20 = .ok (.getfield 9, 3) := by decide +kernel
theorem dX0_advance_23 : decode cX0_advance 23 = .ok (.aload_n 0, 1) := by decide +kernel
theorem dX0_advance_24 : decode cX0_advance 24 = .ok (.getfield 22, 3) := by decide +kernel
theorem dX0_advance_27 : decode cX0_advance 27 = .ok (.baload, 1) := by decide +kernel
theorem dX0_advance_28 : decode cX0_advance 28 = .ok (.bipush 32, 2) := by decide +kernel
theorem dX0_advance_30 : decode cX0_advance 30 = .ok (.if_icmp .ne 16, 3) := by decide +kernel
theorem dX0_advance_33 : decode cX0_advance 33 = .ok (.aload_n 0, 1) := by decide +kernel
theorem dX0_advance_34 : decode cX0_advance 34 = .ok (.dup, 1) := by decide +kernel
theorem dX0_advance_35 : decode cX0_advance 35 = .ok (.getfield 22, 3) := by decide +kernel
theorem dX0_advance_38 : decode cX0_advance 38 = .ok (.iconst 1, 1) := by decide +kernel
theorem dX0_advance_39 : decode cX0_advance 39 = .ok (.iadd, 1) := by decide +kernel
theorem dX0_advance_40 : decode cX0_advance 40 = .ok (.putfield 22, 3) := by decide +kernel
theorem dX0_advance_43 : decode cX0_advance 43 = .ok (.goto (-35), 3) := by decide +kernel
theorem dX0_advance_46 : decode cX0_advance 46 = .ok (.aload_n 0, 1) := by decide +kernel
theorem dX0_advance_47 : decode cX0_advance 47 = .ok (.aload_n 0, 1) := by decide +kernel
theorem dX0_advance_48 : decode cX0_advance 48 = .ok (.getfield 22, 3) := by decide +kernel
theorem dX0_advance_51 : decode cX0_advance 51 = .ok (.putfield 25, 3) := by decide +kernel
theorem dX0_advance_54 : decode cX0_advance 54 = .ok (.aload_n 0, 1) := by decide +kernel
theorem dX0_advance_55 : decode cX0_advance 55 = .ok (.iconst 0, 1) := by decide +kernel
theorem dX0_advance_56 : decode cX0_advance 56 = .ok (.putfield 28, 3) := by decide +kernel
theorem dX0_advance_59 : decode cX0_advance 59 = .ok (.aload_n 0, 1) := by decide +kernel
theorem dX0_advance_60 : decode cX0_advance 60 = .ok (.getfield 22, 3) := by decide +kernel
theorem dX0_advance_63 : decode cX0_advance 63 = .ok (.aload_n 0, 1) := by decide +kernel
theorem dX0_advance_64 : decode cX0_advance 64 = .ok (.getfield 15, 3) := by decide +kernel
theorem dX0_advance_67 : decode cX0_advance 67 = .ok (.if_icmp .lt 11, 3) := by decide +kernel
theorem dX0_advance_70 : decode cX0_advance 70 = .ok (.aload_n 0, 1) := by decide +kernel
theorem dX0_advance_71 : decode cX0_advance 71 = .ok (.iconst 0, 1) := by decide +kernel
theorem dX0_advance_72 : decode cX0_advance 72 = .ok (.putfield 19, 3) := by decide +kernel
theorem dX0_advance_75 : decode cX0_advance 75 = .ok (.goto 90, 3) := by decide +kernel
theorem dX0_advance_78 : decode cX0_advance 78 = .ok (.aload_n 0, 1) := by decide +kernel
theorem dX0_advance_79 : decode cX0_advance 79 = .ok (.getfield 9, 3) := by decide +kernel
theorem dX0_advance_82 : decode cX0_advance 82 = .ok (.aload_n 0, 1) := by decide +kernel
theorem dX0_advance_83 : decode cX0_advance 83 = .ok (.getfield 22, 3) := by decide +kernel
theorem dX0_advance_86 : decode cX0_advance 86 = .ok (.baload, 1) := by decide +kernel
theorem dX0_advance_87 : decode cX0_advance 87 = .ok (.invokestatic 128, 3) := by decide +kernel
theorem dX0_advance_90 : decode cX0_advance 90 = .ok (.ifCond .eq 15, 3) := by decide +kernel
theorem dX0_advance_93 : decode cX0_advance 93 = .ok (.aload_n 0, 1) := by decide +kernel
theorem dX0_advance_94 : decode cX0_advance 94 = .ok (.iconst 1, 1) := by decide +kernel
theorem dX0_advance_95 : decode cX0_advance 95 = .ok (.putfield 19, 3) := by decide +kernel
theorem dX0_advance_98 : decode cX0_advance 98 = .ok (.aload_n 0, 1) := by decide +kernel
theorem dX0_advance_99 : decode cX0_advance 99 = .ok (.invokevirtual 131, 3) := by decide +kernel
theorem dX0_advance_102 : decode cX0_advance 102 = .ok (.goto 63, 3) := by decide +kernel
theorem dX0_advance_105 : decode cX0_advance 105 = .ok (.aload_n 0, 1) := by decide +kernel
theorem dX0_advance_106 : decode cX0_advance 106 = .ok (.getfield 9, 3) := by decide +kernel
theorem dX0_advance_109 : decode cX0_advance 109 = .ok (.aload_n 0, 1) := by decide +kernel
theorem dX0_advance_110 : decode cX0_advance 110 = .ok (.getfield 22, 3) := by decide +kernel
theorem dX0_advance_113 : decode cX0_advance 113 = .ok (.baload, 1) := by decide +kernel
theorem dX0_advance_114 : decode cX0_advance 114 = .ok (.invokestatic 134, 3) := by decide +kernel
theorem dX0_advance_117 : decode cX0_advance 117 = .ok (.ifCond .eq 15, 3) := by decide +kernel
theorem dX0_advance_120 : decode cX0_advance 120 = .ok (.aload_n 0, 1) := by decide +kernel
theorem dX0_advance_121 : decode cX0_advance 121 = .ok (.iconst 2, 1) := by decide +kernel
theorem dX0_advance_122 : decode cX0_advance 122 = .ok (.putfield 19, 3) := by decide +kernel
theorem dX0_advance_125 : decode cX0_advance 125 = .ok (.aload_n 0, 1) := by decide +kernel
theorem dX0_advance_126 : decode cX0_advance 126 = .ok (.invokevirtual 137, 3) := by decide +kernel
theorem dX0_advance_129 : decode cX0_advance 129 = .ok (.goto 36, 3) := by decide +kernel
theorem dX0_advance_132 : decode cX0_advance 132 = .ok (.aload_n 0, 1) := by decide +kernel
theorem dX0_advance_133 : decode cX0_advance 133 = .ok (.aload_n 0, 1) := by decide +kernel
theorem dX0_advance_134 : decode cX0_advance 134 = .ok (.getfield 9, 3) := by decide +kernel
theorem dX0_advance_137 : decode cX0_advance 137 = .ok (.aload_n 0, 1) := by decide +kernel
theorem dX0_advance_138 : decode cX0_advance 138 = .ok (.getfield 22, 3) := by decide +kernel
theorem dX0_advance_141 : decode cX0_advance 141 = .ok (.baload, 1) := by decide +kernel
theorem dX0_advance_142 : decode cX0_advance 142 = .ok (.bipush 59, 2) := by decide +kernel
theorem dX0_advance_144 : decode cX0_advance 144 = .ok (.if_icmp .ne 7, 3) := by decide +kernel
theorem dX0_advance_147 : decode cX0_advance 147 = .ok (.iconst 3, 1) := by decide +kernel
theorem dX0_advance_148 : decode cX0_advance 148 = .ok (.goto 4, 3) := by decide +kernel
theorem dX0_advance_151 : decode cX0_advance 151 = .ok (.iconst 4, 1) := by decide +kernel
theorem dX0_advance_152 : decode cX0_advance 152 = .ok (.putfield 19, 3) := by decide +kernel
theorem dX0_advance_155 : decode cX0_advance 155 = .ok (.aload_n 0, 1) := by decide +kernel
theorem dX0_advance_156 : decode cX0_advance 156 = .ok (.dup, 1) := by decide +kernel
theorem dX0_advance_157 : decode cX0_advance 157 = .ok (.getfield 25, 3) := by decide +kernel
theorem dX0_advance_160 : decode cX0_advance 160 = .ok (.iconst 1, 1) := by decide +kernel
theorem dX0_advance_161 : decode cX0_advance 161 = .ok (.iadd, 1) := by decide +kernel
theorem dX0_advance_162 : decode cX0_advance 162 = .ok (.putfield 25, 3) := by decide +kernel
theorem dX0_advance_165 : decode cX0_advance 165 = .ok (.return_, 1) := by decide +kernel
def bX0_advance_165 (fu : Nat) (σ : mt_St) : Option (Unit × mt_St) :=
  some ((), σ)
set_option maxHeartbeats 4000000 in
set_option maxRecDepth 20000 in
theorem vX0_advance_165 {K : mt_C} {fu : Nat} {r : Unit} {σf : mt_St} (hQ : mt_R K none none σf) : ∀ (σ : mt_St), mt_V K cX0_advance RX0 1 2 σ 165 [] [] (bX0_advance_165 fu σ = some (r, σf)) := by
  intro σ
  unfold bX0_advance_165
  exact mv_vret hQ dX0_advance_165
def bX0_advance_152 (fu : Nat) (σ : mt_St) (y0 : Int32) : Option (Unit × mt_St) :=
  mt_bnd (mt_up σ 44 2 y0) fun s1 =>
  mt_bnd (mt_up s1 44 4 ((s1 44 4) + (1 : Int32))) fun s2 =>
  bX0_advance_165 fu s2
set_option maxHeartbeats 4000000 in
set_option maxRecDepth 20000 in
theorem vX0_advance_152 {K : mt_C} {fu : Nat} {r : Unit} {σf : mt_St} (hQ : mt_R K none none σf) : ∀ (σ : mt_St) (y0 : Int32), mt_V K cX0_advance RX0 1 2 σ 152 [(0, .ref (mt_adr (kG K) 44))] [.int y0, .ref (mt_adr (kG K) 44)] (bX0_advance_152 fu σ y0 = some (r, σf)) := by
  intro σ y0
  unfold bX0_advance_152
  refine mp_X0_2 fl_X0_19 dX0_advance_152 (fun s1 => ?_)
  refine mv_aload_n 0 dX0_advance_155 rfl rfl ?_
  refine mv_dup dX0_advance_156 rfl ?_
  refine mg_X0_4 fl_X0_25 dX0_advance_157 ?_
  refine mv_iconst (v := 1) dX0_advance_160 ic_1 ?_
  refine mv_iadd dX0_advance_161 ?_
  refine mp_X0_4 fl_X0_25 dX0_advance_162 (fun s2 => ?_)
  refine mv_sub (lv' := []) [] rfl ?_
  exact vX0_advance_165 hQ s2
def bX0_advance_46 (fu : Nat) (σ : mt_St) : Option (Unit × mt_St) :=
  mt_bnd (mt_up σ 44 4 (σ 44 3)) fun s1 =>
  mt_bnd (mt_up s1 44 5 (0 : Int32)) fun s2 =>
  if (s2 44 3) < (s2 44 1) then
    mt_chk (mt_in (s2 44 3) 120) <|
    mt_ask (fX0_isLetter fu (s2 45 (Int32.toNatClampNeg (s2 44 3)))) fun r3 =>
    if r3 = 0 then
      mt_chk (mt_in (s2 44 3) 120) <|
      mt_ask (fX0_isDigit fu (s2 45 (Int32.toNatClampNeg (s2 44 3)))) fun r4 =>
      if r4 = 0 then
        mt_chk (mt_in (s2 44 3) 120) <|
        if (s2 45 (Int32.toNatClampNeg (s2 44 3))) = (59 : Int32) then
          bX0_advance_152 fu s2 (3 : Int32)
        else
          bX0_advance_152 fu s2 (4 : Int32)
      else
        mt_bnd (mt_up s2 44 2 (2 : Int32)) fun s5 =>
        mt_call (fX0_advanceDigits fu s5) fun _ s7 =>
        bX0_advance_165 fu s7
    else
      mt_bnd (mt_up s2 44 2 (1 : Int32)) fun s8 =>
      mt_call (fX0_advanceLetters fu s8) fun _ s10 =>
      bX0_advance_165 fu s10
  else
    mt_bnd (mt_up s2 44 2 (0 : Int32)) fun s11 =>
    bX0_advance_165 fu s11
set_option maxHeartbeats 4000000 in
set_option maxRecDepth 20000 in
theorem vX0_advance_46 {K : mt_C} {fu : Nat} {r : Unit} {σf : mt_St} (hQ : mt_R K none none σf) : ∀ (σ : mt_St), mt_V K cX0_advance RX0 1 2 σ 46 [(0, .ref (mt_adr (kG K) 44))] [] (bX0_advance_46 fu σ = some (r, σf)) := by
  intro σ
  unfold bX0_advance_46
  refine mv_aload_n 0 dX0_advance_46 rfl rfl ?_
  refine mv_aload_n 0 dX0_advance_47 rfl rfl ?_
  refine mg_X0_3 fl_X0_22 dX0_advance_48 ?_
  refine mp_X0_4 fl_X0_25 dX0_advance_51 (fun s1 => ?_)
  refine mv_aload_n 0 dX0_advance_54 rfl rfl ?_
  refine mv_iconst (v := 0) dX0_advance_55 ic_0 ?_
  refine mp_X0_5 fl_X0_28 dX0_advance_56 (fun s2 => ?_)
  refine mv_aload_n 0 dX0_advance_59 rfl rfl ?_
  refine mg_X0_3 fl_X0_22 dX0_advance_60 ?_
  refine mv_aload_n 0 dX0_advance_63 rfl rfl ?_
  refine mg_X0_1 fl_X0_15 dX0_advance_64 ?_
  refine mv_icmp_lt 78 dX0_advance_67 (by decide) ?_ ?_
  · refine mv_aload_n 0 dX0_advance_78 rfl rfl ?_
    refine mg_X0_0 fl_X0_9 dX0_advance_79 ?_
    refine mv_aload_n 0 dX0_advance_82 rfl rfl ?_
    refine mg_X0_3 fl_X0_22 dX0_advance_83 ?_
    refine mv_bald 120 rfl rfl dX0_advance_86 ?_
    refine mv_cSri (As := [.int (s2 45 (Int32.toNatClampNeg (s2 44 3)))]) (st := []) cal_X0_isLetter sta_X0_isLetter ml_X0_128 rfl (by decide) rfl (Nat.le_of_ble_eq_true rfl) dX0_advance_87 (fun r h => co_X0_isLetter h) (fun r3 => ?_)
    refine mv_if_eq 105 dX0_advance_90 (by decide) ?_ ?_
    · refine mv_aload_n 0 dX0_advance_105 rfl rfl ?_
      refine mg_X0_0 fl_X0_9 dX0_advance_106 ?_
      refine mv_aload_n 0 dX0_advance_109 rfl rfl ?_
      refine mg_X0_3 fl_X0_22 dX0_advance_110 ?_
      refine mv_bald 120 rfl rfl dX0_advance_113 ?_
      refine mv_cSri (As := [.int (s2 45 (Int32.toNatClampNeg (s2 44 3)))]) (st := []) cal_X0_isDigit sta_X0_isDigit ml_X0_134 rfl (by decide) rfl (Nat.le_of_ble_eq_true rfl) dX0_advance_114 (fun r h => co_X0_isDigit h) (fun r4 => ?_)
      refine mv_if_eq 132 dX0_advance_117 (by decide) ?_ ?_
      · refine mv_aload_n 0 dX0_advance_132 rfl rfl ?_
        refine mv_aload_n 0 dX0_advance_133 rfl rfl ?_
        refine mg_X0_0 fl_X0_9 dX0_advance_134 ?_
        refine mv_aload_n 0 dX0_advance_137 rfl rfl ?_
        refine mg_X0_3 fl_X0_22 dX0_advance_138 ?_
        refine mv_bald 120 rfl rfl dX0_advance_141 ?_
        refine mv_bipush (v := 59) dX0_advance_142 bp_59 ?_
        refine mv_icmp_ne 151 dX0_advance_144 (by decide) ?_ ?_
        · refine mv_iconst (v := 4) dX0_advance_151 ic_4 ?_
          exact vX0_advance_152 hQ s2 (4 : Int32)
        · refine mv_iconst (v := 3) dX0_advance_147 ic_3 ?_
          refine mv_goto 152 dX0_advance_148 (by decide) ?_
          exact vX0_advance_152 hQ s2 (3 : Int32)
      · refine mv_aload_n 0 dX0_advance_120 rfl rfl ?_
        refine mv_iconst (v := 2) dX0_advance_121 ic_2 ?_
        refine mp_X0_2 fl_X0_19 dX0_advance_122 (fun s5 => ?_)
        refine mv_aload_n 0 dX0_advance_125 rfl rfl ?_
        refine mv_cVwv (As := []) (st := []) cal_X0_advanceDigits ins_X0_advanceDigits ml_X0_137 rfl (by decide) rfl rfl (by decide) rfl (Nat.le_of_ble_eq_true rfl) dX0_advance_126 (fun r s h => co_X0_advanceDigits h) (fun r6 s7 => ?_)
        refine mv_goto 165 dX0_advance_129 (by decide) ?_
        refine mv_sub (lv' := []) [] rfl ?_
        exact vX0_advance_165 hQ s7
    · refine mv_aload_n 0 dX0_advance_93 rfl rfl ?_
      refine mv_iconst (v := 1) dX0_advance_94 ic_1 ?_
      refine mp_X0_2 fl_X0_19 dX0_advance_95 (fun s8 => ?_)
      refine mv_aload_n 0 dX0_advance_98 rfl rfl ?_
      refine mv_cVwv (As := []) (st := []) cal_X0_advanceLetters ins_X0_advanceLetters ml_X0_131 rfl (by decide) rfl rfl (by decide) rfl (Nat.le_of_ble_eq_true rfl) dX0_advance_99 (fun r s h => co_X0_advanceLetters h) (fun r9 s10 => ?_)
      refine mv_goto 165 dX0_advance_102 (by decide) ?_
      refine mv_sub (lv' := []) [] rfl ?_
      exact vX0_advance_165 hQ s10
  · refine mv_aload_n 0 dX0_advance_70 rfl rfl ?_
    refine mv_iconst (v := 0) dX0_advance_71 ic_0 ?_
    refine mp_X0_2 fl_X0_19 dX0_advance_72 (fun s11 => ?_)
    refine mv_goto 165 dX0_advance_75 (by decide) ?_
    refine mv_sub (lv' := []) [] rfl ?_
    exact vX0_advance_165 hQ s11
def bX0_advance_8 (fu : Nat) : Nat → mt_St → Option (Unit × mt_St)
  | 0, _ => none
  | n + 1, σ =>
    if (σ 44 1) ≤ (σ 44 3) then
      bX0_advance_46 fu σ
    else
      mt_chk (mt_in (σ 44 3) 120) <|
      if (σ 45 (Int32.toNatClampNeg (σ 44 3))) = (32 : Int32) then
        mt_bnd (mt_up σ 44 3 ((σ 44 3) + (1 : Int32))) fun s1 =>
        bX0_advance_8 fu n s1
      else
        bX0_advance_46 fu σ
set_option maxHeartbeats 4000000 in
set_option maxRecDepth 20000 in
theorem vX0_advance_8 {K : mt_C} {fu : Nat} {r : Unit} {σf : mt_St} (hQ : mt_R K none none σf) : ∀ (n : Nat) (σ : mt_St), mt_V K cX0_advance RX0 1 2 σ 8 [(0, .ref (mt_adr (kG K) 44))] [] (bX0_advance_8 fu n σ = some (r, σf)) := by
  intro n
  induction n with
  | zero => intro σ; intro hP; unfold bX0_advance_8 at hP; cases hP
  | succ n ih =>
    intro σ
    unfold bX0_advance_8
    refine mv_aload_n 0 dX0_advance_8 rfl rfl ?_
    refine mg_X0_3 fl_X0_22 dX0_advance_9 ?_
    refine mv_aload_n 0 dX0_advance_12 rfl rfl ?_
    refine mg_X0_1 fl_X0_15 dX0_advance_13 ?_
    refine mv_icmp_ge 46 dX0_advance_16 (by decide) ?_ ?_
    · exact vX0_advance_46 hQ σ
    · refine mv_aload_n 0 dX0_advance_19 rfl rfl ?_
      refine mg_X0_0 fl_X0_9 dX0_advance_20 ?_
      refine mv_aload_n 0 dX0_advance_23 rfl rfl ?_
      refine mg_X0_3 fl_X0_22 dX0_advance_24 ?_
      refine mv_bald 120 rfl rfl dX0_advance_27 ?_
      refine mv_bipush (v := 32) dX0_advance_28 bp_32 ?_
      refine mv_icmp_ne 46 dX0_advance_30 (by decide) ?_ ?_
      · exact vX0_advance_46 hQ σ
      · refine mv_aload_n 0 dX0_advance_33 rfl rfl ?_
        refine mv_dup dX0_advance_34 rfl ?_
        refine mg_X0_3 fl_X0_22 dX0_advance_35 ?_
        refine mv_iconst (v := 1) dX0_advance_38 ic_1 ?_
        refine mv_iadd dX0_advance_39 ?_
        refine mp_X0_3 fl_X0_22 dX0_advance_40 (fun s1 => ?_)
        refine mv_goto 8 dX0_advance_43 (by decide) ?_
        exact ih s1
def fX0_advance (fu : Nat) (σ : mt_St) : Option (Unit × mt_St) :=
  mt_bnd (mt_up σ 44 3 (σ 44 4)) fun s1 =>
  bX0_advance_8 fu fu s1
set_option maxHeartbeats 4000000 in
set_option maxRecDepth 20000 in
theorem vX0_advance {K : mt_C} {fu : Nat} {σ : mt_St} {r : Unit} {σf : mt_St} (hQ : mt_R K none none σf) : mt_V K cX0_advance RX0 1 2 σ 0 [(0, .ref (mt_adr (kG K) 44))] [] (fX0_advance fu σ = some (r, σf)) := by
  unfold fX0_advance
  refine mv_aload_n 0 dX0_advance_0 rfl rfl ?_
  refine mv_aload_n 0 dX0_advance_1 rfl rfl ?_
  refine mg_X0_4 fl_X0_25 dX0_advance_2 ?_
  refine mp_X0_3 fl_X0_22 dX0_advance_5 (fun s1 => ?_)
  exact vX0_advance_8 hQ fu s1
theorem co_X0_advance {l : Launch} {G : mt_G} {fu : Nat} {σ : mt_St} {r : Unit} {σf : mt_St}  (h : fX0_advance fu σ = some (r, σf)) : mt_Con l G yX0_advance cX0_advance 1 none 2 [.ref (mt_adr G 44)] σ none σf :=
  mt_con (by decide) (Nat.le_of_ble_eq_true rfl) (fun K hl hG hQ => by subst hl; subst hG; exact fun _ => vX0_advance  hQ h)
theorem dX0_isWord_0 : decode cX0_isWord 0 = .ok (.aload_n 0, 1) := by decide +kernel
theorem dX0_isWord_1 : decode cX0_isWord 1 = .ok (.getfield 19, 3) := by decide +kernel
theorem dX0_isWord_4 : decode cX0_isWord 4 = .ok (.iconst 1, 1) := by decide +kernel
theorem dX0_isWord_5 : decode cX0_isWord 5 = .ok (.if_icmp .ne 19, 3) := by decide +kernel
theorem dX0_isWord_8 : decode cX0_isWord 8 = .ok (.aload_n 0, 1) := by decide +kernel
theorem dX0_isWord_9 : decode cX0_isWord 9 = .ok (.getfield 25, 3) := by decide +kernel
theorem dX0_isWord_12 : decode cX0_isWord 12 = .ok (.aload_n 0, 1) := by decide +kernel
theorem dX0_isWord_13 : decode cX0_isWord 13 = .ok (.getfield 22, 3) := by decide +kernel
theorem dX0_isWord_16 : decode cX0_isWord 16 = .ok (.isub, 1) := by decide +kernel
theorem dX0_isWord_17 : decode cX0_isWord 17 = .ok (.aload_n 1, 1) := by decide +kernel
theorem dX0_isWord_18 : decode cX0_isWord 18 = .ok (.invokevirtual 120, 3) := by decide +kernel
theorem dX0_isWord_21 : decode cX0_isWord 21 = .ok (.if_icmp .eq 5, 3) := by decide +kernel
theorem dX0_isWord_24 : decode cX0_isWord 24 = .ok (.iconst 0, 1) := by decide +kernel
theorem dX0_isWord_25 : decode cX0_isWord 25 = .ok (.ireturn, 1) := by decide +kernel
theorem dX0_isWord_26 : decode cX0_isWord 26 = .ok (.iconst 0, 1) := by decide +kernel
theorem dX0_isWord_27 : decode cX0_isWord 27 = .ok (.istore_n 2, 1) := by decide +kernel
theorem dX0_isWord_28 : decode cX0_isWord 28 = .ok (.iload_n 2, 1) := by decide +kernel
theorem dX0_isWord_29 : decode cX0_isWord 29 = .ok (.aload_n 1, 1) := by decide +kernel
theorem dX0_isWord_30 : decode cX0_isWord 30 = .ok (.invokevirtual 120, 3) := by decide +kernel
theorem dX0_isWord_33 : decode cX0_isWord 33 = .ok (.if_icmp .ge 41, 3) := by decide +kernel
theorem dX0_isWord_36 : decode cX0_isWord 36 = .ok (.aload_n 0, 1) := by decide +kernel
theorem dX0_isWord_37 : decode cX0_isWord 37 = .ok (.getfield 22, 3) := by decide +kernel
theorem dX0_isWord_40 : decode cX0_isWord 40 = .ok (.iload_n 2, 1) := by decide +kernel
theorem dX0_isWord_41 : decode cX0_isWord 41 = .ok (.iadd, 1) := by decide +kernel
theorem dX0_isWord_42 : decode cX0_isWord 42 = .ok (.bipush 120, 2) := by decide +kernel
theorem dX0_isWord_44 : decode cX0_isWord 44 = .ok (.if_icmp .ge 30, 3) := by decide +kernel
theorem dX0_isWord_47 : decode cX0_isWord 47 = .ok (.aload_n 0, 1) := by decide +kernel
theorem dX0_isWord_48 : decode cX0_isWord 48 = .ok (.getfield 9, 3) := by decide +kernel
theorem dX0_isWord_51 : decode cX0_isWord 51 = .ok (.aload_n 0, 1) := by decide +kernel
theorem dX0_isWord_52 : decode cX0_isWord 52 = .ok (.getfield 22, 3) := by decide +kernel
theorem dX0_isWord_55 : decode cX0_isWord 55 = .ok (.iload_n 2, 1) := by decide +kernel
theorem dX0_isWord_56 : decode cX0_isWord 56 = .ok (.iadd, 1) := by decide +kernel
theorem dX0_isWord_57 : decode cX0_isWord 57 = .ok (.baload, 1) := by decide +kernel
theorem dX0_isWord_58 : decode cX0_isWord 58 = .ok (.aload_n 1, 1) := by decide +kernel
theorem dX0_isWord_59 : decode cX0_isWord 59 = .ok (.iload_n 2, 1) := by decide +kernel
theorem dX0_isWord_60 : decode cX0_isWord 60 = .ok (.invokevirtual 124, 3) := by decide +kernel
theorem dX0_isWord_63 : decode cX0_isWord 63 = .ok (.if_icmp .eq 5, 3) := by decide +kernel
theorem dX0_isWord_66 : decode cX0_isWord 66 = .ok (.iconst 0, 1) := by decide +kernel
theorem dX0_isWord_67 : decode cX0_isWord 67 = .ok (.ireturn, 1) := by decide +kernel
theorem dX0_isWord_68 : decode cX0_isWord 68 = .ok (.iinc 2 1, 3) := by decide +kernel
theorem dX0_isWord_71 : decode cX0_isWord 71 = .ok (.goto (-43), 3) := by decide +kernel
theorem dX0_isWord_74 : decode cX0_isWord 74 = .ok (.iconst 1, 1) := by decide +kernel
theorem dX0_isWord_75 : decode cX0_isWord 75 = .ok (.ireturn, 1) := by decide +kernel
def bX0_isWord_74 (fu : Nat) (a1 : Nat) (σ : mt_St) : Option Int32 :=
  some (1 : Int32)
set_option maxHeartbeats 4000000 in
set_option maxRecDepth 20000 in
theorem vX0_isWord_74 {K : mt_C} {fu : Nat} {a1 : Nat} {σ : mt_St} {r : Int32} (ha1 : a1 < 13) (hQ : mt_R K (some .boolean) (some (.int r)) σ) : mt_V K cX0_isWord RX0 3 4 σ 74 [] [] (bX0_isWord_74 fu a1 σ = some r) := by
  unfold bX0_isWord_74
  refine mv_iconst (v := 1) dX0_isWord_74 ic_1 ?_
  exact mv_zretr0 hQ (by decide) dX0_isWord_75
def bX0_isWord_28 (fu : Nat) (a1 : Nat) (σ : mt_St) : Nat → Int32 → Option Int32
  | 0, _ => none
  | n + 1, x2 =>
    mt_ask (fS_len a1) fun r1 =>
    if r1 ≤ x2 then
      bX0_isWord_74 fu a1 σ
    else
      if (120 : Int32) ≤ ((σ 44 3) + x2) then
        bX0_isWord_74 fu a1 σ
      else
        mt_chk (mt_in ((σ 44 3) + x2) 120) <|
        mt_ask (fS_chr a1 x2) fun r2 =>
        if (σ 45 (Int32.toNatClampNeg ((σ 44 3) + x2))) = r2 then
          bX0_isWord_28 fu a1 σ n (x2 + 1)
        else
          some (0 : Int32)
set_option maxHeartbeats 4000000 in
set_option maxRecDepth 20000 in
theorem vX0_isWord_28 {K : mt_C} {fu : Nat} {a1 : Nat} {σ : mt_St} {r : Int32} (ha1 : a1 < 13) (hQ : mt_R K (some .boolean) (some (.int r)) σ) : ∀ (n : Nat) (x2 : Int32), mt_V K cX0_isWord RX0 3 4 σ 28 [(0, .ref (mt_adr (kG K) 44)), (1, .ref (mt_aK (kG K) a1)), (2, .int x2)] [] (bX0_isWord_28 fu a1 σ n x2 = some r) := by
  intro n
  induction n with
  | zero => intro x2; intro hP; unfold bX0_isWord_28 at hP; cases hP
  | succ n ih =>
    intro x2
    unfold bX0_isWord_28
    refine mv_iload_n 2 dX0_isWord_28 rfl rfl ?_
    refine mv_aload_n 1 dX0_isWord_29 rfl rfl ?_
    refine mv_len ha1 ml_X0_120 (by decide) (Nat.le_of_ble_eq_true rfl) dX0_isWord_30 (fun r1 => ?_)
    refine mv_icmp_ge 74 dX0_isWord_33 (by decide) ?_ ?_
    · refine mv_sub (lv' := []) [] rfl ?_
      exact vX0_isWord_74 ha1 hQ
    · refine mv_aload_n 0 dX0_isWord_36 rfl rfl ?_
      refine mg_X0_3 fl_X0_22 dX0_isWord_37 ?_
      refine mv_iload_n 2 dX0_isWord_40 rfl rfl ?_
      refine mv_iadd dX0_isWord_41 ?_
      refine mv_bipush (v := 120) dX0_isWord_42 bp_120 ?_
      refine mv_icmp_ge 74 dX0_isWord_44 (by decide) ?_ ?_
      · refine mv_sub (lv' := []) [] rfl ?_
        exact vX0_isWord_74 ha1 hQ
      · refine mv_aload_n 0 dX0_isWord_47 rfl rfl ?_
        refine mg_X0_0 fl_X0_9 dX0_isWord_48 ?_
        refine mv_aload_n 0 dX0_isWord_51 rfl rfl ?_
        refine mg_X0_3 fl_X0_22 dX0_isWord_52 ?_
        refine mv_iload_n 2 dX0_isWord_55 rfl rfl ?_
        refine mv_iadd dX0_isWord_56 ?_
        refine mv_bald 120 rfl rfl dX0_isWord_57 ?_
        refine mv_aload_n 1 dX0_isWord_58 rfl rfl ?_
        refine mv_iload_n 2 dX0_isWord_59 rfl rfl ?_
        refine mv_chr ha1 ml_X0_124 (by decide) (Nat.le_of_ble_eq_true rfl) dX0_isWord_60 (fun r2 => ?_)
        refine mv_icmp_eq 68 dX0_isWord_63 (by decide) ?_ ?_
        · refine mv_iinc (k0 := 2) (v := x2 + 1) (lv' := [(0, .ref (mt_adr (kG K) 44)), (1, .ref (mt_aK (kG K) a1)), (2, .int (x2 + 1))]) [1, 2, 0] dX0_isWord_68 rfl (mt_inc ic_1) (by decide) rfl ?_
          refine mv_goto 28 dX0_isWord_71 (by decide) ?_
          exact ih (x2 + 1)
        · refine mv_iconst (v := 0) dX0_isWord_66 ic_0 ?_
          exact mv_zretr0 hQ (by decide) dX0_isWord_67
def bX0_isWord_24 (fu : Nat) (a1 : Nat) (σ : mt_St) : Option Int32 :=
  some (0 : Int32)
set_option maxHeartbeats 4000000 in
set_option maxRecDepth 20000 in
theorem vX0_isWord_24 {K : mt_C} {fu : Nat} {a1 : Nat} {σ : mt_St} {r : Int32} (ha1 : a1 < 13) (hQ : mt_R K (some .boolean) (some (.int r)) σ) : mt_V K cX0_isWord RX0 3 4 σ 24 [] [] (bX0_isWord_24 fu a1 σ = some r) := by
  unfold bX0_isWord_24
  refine mv_iconst (v := 0) dX0_isWord_24 ic_0 ?_
  exact mv_zretr0 hQ (by decide) dX0_isWord_25
def fX0_isWord (fu : Nat) (σ : mt_St) (a1 : Nat) : Option Int32 :=
  if (σ 44 2) = (1 : Int32) then
    mt_ask (fS_len a1) fun r1 =>
    if ((σ 44 4) - (σ 44 3)) = r1 then
      bX0_isWord_28 fu a1 σ fu (0 : Int32)
    else
      bX0_isWord_24 fu a1 σ
  else
    bX0_isWord_24 fu a1 σ
set_option maxHeartbeats 4000000 in
set_option maxRecDepth 20000 in
theorem vX0_isWord {K : mt_C} {fu : Nat} {σ : mt_St} {a1 : Nat} {r : Int32} (ha1 : a1 < 13) (hQ : mt_R K (some .boolean) (some (.int r)) σ) : mt_V K cX0_isWord RX0 3 4 σ 0 [(0, .ref (mt_adr (kG K) 44)), (1, .ref (mt_aK (kG K) a1))] [] (fX0_isWord fu σ a1 = some r) := by
  unfold fX0_isWord
  refine mv_aload_n 0 dX0_isWord_0 rfl rfl ?_
  refine mg_X0_2 fl_X0_19 dX0_isWord_1 ?_
  refine mv_iconst (v := 1) dX0_isWord_4 ic_1 ?_
  refine mv_icmp_ne 24 dX0_isWord_5 (by decide) ?_ ?_
  · refine mv_sub (lv' := []) [] rfl ?_
    exact vX0_isWord_24 ha1 hQ
  · refine mv_aload_n 0 dX0_isWord_8 rfl rfl ?_
    refine mg_X0_4 fl_X0_25 dX0_isWord_9 ?_
    refine mv_aload_n 0 dX0_isWord_12 rfl rfl ?_
    refine mg_X0_3 fl_X0_22 dX0_isWord_13 ?_
    refine mv_isub dX0_isWord_16 ?_
    refine mv_aload_n 1 dX0_isWord_17 rfl rfl ?_
    refine mv_len ha1 ml_X0_120 (by decide) (Nat.le_of_ble_eq_true rfl) dX0_isWord_18 (fun r1 => ?_)
    refine mv_icmp_eq 26 dX0_isWord_21 (by decide) ?_ ?_
    · refine mv_iconst (v := 0) dX0_isWord_26 ic_0 ?_
      refine mv_istore_n (lv' := [(0, .ref (mt_adr (kG K) 44)), (1, .ref (mt_aK (kG K) a1)), (2, .int (0 : Int32))]) [1, 2, 0] dX0_isWord_27 rfl (by decide) rfl ?_
      exact vX0_isWord_28 ha1 hQ fu (0 : Int32)
    · refine mv_sub (lv' := []) [] rfl ?_
      exact vX0_isWord_24 ha1 hQ
theorem co_X0_isWord {l : Launch} {G : mt_G} {fu : Nat} {σ : mt_St} {a1 : Nat} {r : Int32} (ha1 : a1 < 13) (h : fX0_isWord fu σ a1 = some r) : mt_Con l G yX0_isWord cX0_isWord 3 (some .boolean) 4 [.ref (mt_adr G 44), .ref (mt_aK G a1)] σ (some (.int r)) σ :=
  mt_con (by decide) (Nat.le_of_ble_eq_true rfl) (fun K hl hG hQ => by subst hl; subst hG; exact fun _ => vX0_isWord ha1 hQ h)
theorem dX0_kindTold_0 : decode cX0_kindTold 0 = .ok (.aload_n 0, 1) := by decide +kernel
theorem dX0_kindTold_1 : decode cX0_kindTold 1 = .ok (.ldc 106, 2) := by decide +kernel
theorem dX0_kindTold_3 : decode cX0_kindTold 3 = .ok (.invokevirtual 51, 3) := by decide +kernel
theorem dX0_kindTold_6 : decode cX0_kindTold 6 = .ok (.ifCond .eq 5, 3) := by decide +kernel
theorem dX0_kindTold_9 : decode cX0_kindTold 9 = .ok (.iconst 0, 1) := by decide +kernel
theorem dX0_kindTold_10 : decode cX0_kindTold 10 = .ok (.ireturn, 1) := by decide +kernel
theorem dX0_kindTold_11 : decode cX0_kindTold 11 = .ok (.aload_n 0, 1) := by decide +kernel
theorem dX0_kindTold_12 : decode cX0_kindTold 12 = .ok (.ldc 108, 2) := by decide +kernel
theorem dX0_kindTold_14 : decode cX0_kindTold 14 = .ok (.invokevirtual 51, 3) := by decide +kernel
theorem dX0_kindTold_17 : decode cX0_kindTold 17 = .ok (.ifCond .eq 5, 3) := by decide +kernel
theorem dX0_kindTold_20 : decode cX0_kindTold 20 = .ok (.iconst 1, 1) := by decide +kernel
theorem dX0_kindTold_21 : decode cX0_kindTold 21 = .ok (.ireturn, 1) := by decide +kernel
theorem dX0_kindTold_22 : decode cX0_kindTold 22 = .ok (.aload_n 0, 1) := by decide +kernel
theorem dX0_kindTold_23 : decode cX0_kindTold 23 = .ok (.ldc 110, 2) := by decide +kernel
theorem dX0_kindTold_25 : decode cX0_kindTold 25 = .ok (.invokevirtual 51, 3) := by decide +kernel
theorem dX0_kindTold_28 : decode cX0_kindTold 28 = .ok (.ifCond .eq 5, 3) := by decide +kernel
theorem dX0_kindTold_31 : decode cX0_kindTold 31 = .ok (.iconst 2, 1) := by decide +kernel
theorem dX0_kindTold_32 : decode cX0_kindTold 32 = .ok (.ireturn, 1) := by decide +kernel
theorem dX0_kindTold_33 : decode cX0_kindTold 33 = .ok (.aload_n 0, 1) := by decide +kernel
theorem dX0_kindTold_34 : decode cX0_kindTold 34 = .ok (.ldc 112, 2) := by decide +kernel
theorem dX0_kindTold_36 : decode cX0_kindTold 36 = .ok (.invokevirtual 51, 3) := by decide +kernel
theorem dX0_kindTold_39 : decode cX0_kindTold 39 = .ok (.ifCond .eq 5, 3) := by decide +kernel
theorem dX0_kindTold_42 : decode cX0_kindTold 42 = .ok (.iconst 3, 1) := by decide +kernel
theorem dX0_kindTold_43 : decode cX0_kindTold 43 = .ok (.ireturn, 1) := by decide +kernel
theorem dX0_kindTold_44 : decode cX0_kindTold 44 = .ok (.aload_n 0, 1) := by decide +kernel
theorem dX0_kindTold_45 : decode cX0_kindTold 45 = .ok (.ldc 114, 2) := by decide +kernel
theorem dX0_kindTold_47 : decode cX0_kindTold 47 = .ok (.invokevirtual 51, 3) := by decide +kernel
theorem dX0_kindTold_50 : decode cX0_kindTold 50 = .ok (.ifCond .eq 5, 3) := by decide +kernel
theorem dX0_kindTold_53 : decode cX0_kindTold 53 = .ok (.iconst 4, 1) := by decide +kernel
theorem dX0_kindTold_54 : decode cX0_kindTold 54 = .ok (.ireturn, 1) := by decide +kernel
theorem dX0_kindTold_55 : decode cX0_kindTold 55 = .ok (.aload_n 0, 1) := by decide +kernel
theorem dX0_kindTold_56 : decode cX0_kindTold 56 = .ok (.ldc 116, 2) := by decide +kernel
theorem dX0_kindTold_58 : decode cX0_kindTold 58 = .ok (.invokevirtual 51, 3) := by decide +kernel
theorem dX0_kindTold_61 : decode cX0_kindTold 61 = .ok (.ifCond .eq 5, 3) := by decide +kernel
theorem dX0_kindTold_64 : decode cX0_kindTold 64 = .ok (.iconst 5, 1) := by decide +kernel
theorem dX0_kindTold_65 : decode cX0_kindTold 65 = .ok (.ireturn, 1) := by decide +kernel
theorem dX0_kindTold_66 : decode cX0_kindTold 66 = .ok (.aload_n 0, 1) := by decide +kernel
theorem dX0_kindTold_67 : decode cX0_kindTold 67 = .ok (.ldc 118, 2) := by decide +kernel
theorem dX0_kindTold_69 : decode cX0_kindTold 69 = .ok (.invokevirtual 51, 3) := by decide +kernel
theorem dX0_kindTold_72 : decode cX0_kindTold 72 = .ok (.ifCond .eq 8, 3) := by decide +kernel
theorem dX0_kindTold_75 : decode cX0_kindTold 75 = .ok (.bipush 6, 2) := by decide +kernel
theorem dX0_kindTold_77 : decode cX0_kindTold 77 = .ok (.goto 4, 3) := by decide +kernel
theorem dX0_kindTold_80 : decode cX0_kindTold 80 = .ok (.iconst (-1), 1) := by decide +kernel
theorem dX0_kindTold_81 : decode cX0_kindTold 81 = .ok (.ireturn, 1) := by decide +kernel
def bX0_kindTold_81 (fu : Nat) (σ : mt_St) (y0 : Int32) : Option Int32 :=
  some y0
set_option maxHeartbeats 4000000 in
set_option maxRecDepth 20000 in
theorem vX0_kindTold_81 {K : mt_C} {fu : Nat} {σ : mt_St} {r : Int32} (hQ : mt_R K (some .int) (some (.int r)) σ) : ∀ (y0 : Int32), mt_V K cX0_kindTold RX0 1 5 σ 81 [] [.int y0] (bX0_kindTold_81 fu σ y0 = some r) := by
  intro y0
  unfold bX0_kindTold_81
  exact mv_iretr hQ dX0_kindTold_81
def fX0_kindTold (fu : Nat) (σ : mt_St) : Option Int32 :=
  mt_ask (fX0_isWord fu σ 0) fun r1 =>
  if r1 = 0 then
    mt_ask (fX0_isWord fu σ 1) fun r2 =>
    if r2 = 0 then
      mt_ask (fX0_isWord fu σ 2) fun r3 =>
      if r3 = 0 then
        mt_ask (fX0_isWord fu σ 3) fun r4 =>
        if r4 = 0 then
          mt_ask (fX0_isWord fu σ 4) fun r5 =>
          if r5 = 0 then
            mt_ask (fX0_isWord fu σ 5) fun r6 =>
            if r6 = 0 then
              mt_ask (fX0_isWord fu σ 6) fun r7 =>
              if r7 = 0 then
                bX0_kindTold_81 fu σ (-1 : Int32)
              else
                bX0_kindTold_81 fu σ (6 : Int32)
            else
              some (5 : Int32)
          else
            some (4 : Int32)
        else
          some (3 : Int32)
      else
        some (2 : Int32)
    else
      some (1 : Int32)
  else
    some (0 : Int32)
set_option maxHeartbeats 4000000 in
set_option maxRecDepth 20000 in
theorem vX0_kindTold {K : mt_C} {fu : Nat} {σ : mt_St} {r : Int32} (hQ : mt_R K (some .int) (some (.int r)) σ) : mt_V K cX0_kindTold RX0 1 5 σ 0 [(0, .ref (mt_adr (kG K) 44))] [] (fX0_kindTold fu σ = some r) := by
  unfold fX0_kindTold
  refine mv_aload_n 0 dX0_kindTold_0 rfl rfl ?_
  refine mv_ldcS (List.mem_of_getElem? (i := 0) rfl) dX0_kindTold_1 ?_
  refine mv_cVri (As := [.ref (mt_aK (kG K) 0)]) (st := []) cal_X0_isWord ins_X0_isWord ml_X0_51 rfl (by decide) rfl rfl (by decide) rfl (Nat.le_of_ble_eq_true rfl) dX0_kindTold_3 (fun r h => co_X0_isWord (by decide) h) (fun r1 => ?_)
  refine mv_if_eq 11 dX0_kindTold_6 (by decide) ?_ ?_
  · refine mv_aload_n 0 dX0_kindTold_11 rfl rfl ?_
    refine mv_ldcS (List.mem_of_getElem? (i := 1) rfl) dX0_kindTold_12 ?_
    refine mv_cVri (As := [.ref (mt_aK (kG K) 1)]) (st := []) cal_X0_isWord ins_X0_isWord ml_X0_51 rfl (by decide) rfl rfl (by decide) rfl (Nat.le_of_ble_eq_true rfl) dX0_kindTold_14 (fun r h => co_X0_isWord (by decide) h) (fun r2 => ?_)
    refine mv_if_eq 22 dX0_kindTold_17 (by decide) ?_ ?_
    · refine mv_aload_n 0 dX0_kindTold_22 rfl rfl ?_
      refine mv_ldcS (List.mem_of_getElem? (i := 2) rfl) dX0_kindTold_23 ?_
      refine mv_cVri (As := [.ref (mt_aK (kG K) 2)]) (st := []) cal_X0_isWord ins_X0_isWord ml_X0_51 rfl (by decide) rfl rfl (by decide) rfl (Nat.le_of_ble_eq_true rfl) dX0_kindTold_25 (fun r h => co_X0_isWord (by decide) h) (fun r3 => ?_)
      refine mv_if_eq 33 dX0_kindTold_28 (by decide) ?_ ?_
      · refine mv_aload_n 0 dX0_kindTold_33 rfl rfl ?_
        refine mv_ldcS (List.mem_of_getElem? (i := 3) rfl) dX0_kindTold_34 ?_
        refine mv_cVri (As := [.ref (mt_aK (kG K) 3)]) (st := []) cal_X0_isWord ins_X0_isWord ml_X0_51 rfl (by decide) rfl rfl (by decide) rfl (Nat.le_of_ble_eq_true rfl) dX0_kindTold_36 (fun r h => co_X0_isWord (by decide) h) (fun r4 => ?_)
        refine mv_if_eq 44 dX0_kindTold_39 (by decide) ?_ ?_
        · refine mv_aload_n 0 dX0_kindTold_44 rfl rfl ?_
          refine mv_ldcS (List.mem_of_getElem? (i := 4) rfl) dX0_kindTold_45 ?_
          refine mv_cVri (As := [.ref (mt_aK (kG K) 4)]) (st := []) cal_X0_isWord ins_X0_isWord ml_X0_51 rfl (by decide) rfl rfl (by decide) rfl (Nat.le_of_ble_eq_true rfl) dX0_kindTold_47 (fun r h => co_X0_isWord (by decide) h) (fun r5 => ?_)
          refine mv_if_eq 55 dX0_kindTold_50 (by decide) ?_ ?_
          · refine mv_aload_n 0 dX0_kindTold_55 rfl rfl ?_
            refine mv_ldcS (List.mem_of_getElem? (i := 5) rfl) dX0_kindTold_56 ?_
            refine mv_cVri (As := [.ref (mt_aK (kG K) 5)]) (st := []) cal_X0_isWord ins_X0_isWord ml_X0_51 rfl (by decide) rfl rfl (by decide) rfl (Nat.le_of_ble_eq_true rfl) dX0_kindTold_58 (fun r h => co_X0_isWord (by decide) h) (fun r6 => ?_)
            refine mv_if_eq 66 dX0_kindTold_61 (by decide) ?_ ?_
            · refine mv_aload_n 0 dX0_kindTold_66 rfl rfl ?_
              refine mv_ldcS (List.mem_of_getElem? (i := 6) rfl) dX0_kindTold_67 ?_
              refine mv_cVri (As := [.ref (mt_aK (kG K) 6)]) (st := []) cal_X0_isWord ins_X0_isWord ml_X0_51 rfl (by decide) rfl rfl (by decide) rfl (Nat.le_of_ble_eq_true rfl) dX0_kindTold_69 (fun r h => co_X0_isWord (by decide) h) (fun r7 => ?_)
              refine mv_if_eq 80 dX0_kindTold_72 (by decide) ?_ ?_
              · refine mv_iconst (v := -1) dX0_kindTold_80 ic_m1 ?_
                refine mv_sub (lv' := []) [] rfl ?_
                exact vX0_kindTold_81 hQ (-1 : Int32)
              · refine mv_bipush (v := 6) dX0_kindTold_75 bp_6 ?_
                refine mv_goto 81 dX0_kindTold_77 (by decide) ?_
                refine mv_sub (lv' := []) [] rfl ?_
                exact vX0_kindTold_81 hQ (6 : Int32)
            · refine mv_iconst (v := 5) dX0_kindTold_64 ic_5 ?_
              exact mv_iretr hQ dX0_kindTold_65
          · refine mv_iconst (v := 4) dX0_kindTold_53 ic_4 ?_
            exact mv_iretr hQ dX0_kindTold_54
        · refine mv_iconst (v := 3) dX0_kindTold_42 ic_3 ?_
          exact mv_iretr hQ dX0_kindTold_43
      · refine mv_iconst (v := 2) dX0_kindTold_31 ic_2 ?_
        exact mv_iretr hQ dX0_kindTold_32
    · refine mv_iconst (v := 1) dX0_kindTold_20 ic_1 ?_
      exact mv_iretr hQ dX0_kindTold_21
  · refine mv_iconst (v := 0) dX0_kindTold_9 ic_0 ?_
    exact mv_iretr hQ dX0_kindTold_10
theorem co_X0_kindTold {l : Launch} {G : mt_G} {fu : Nat} {σ : mt_St} {r : Int32}  (h : fX0_kindTold fu σ = some r) : mt_Con l G yX0_kindTold cX0_kindTold 1 (some .int) 5 [.ref (mt_adr G 44)] σ (some (.int r)) σ :=
  mt_con (by decide) (Nat.le_of_ble_eq_true rfl) (fun K hl hG hQ => by subst hl; subst hG; exact fun _ => vX0_kindTold  hQ h)
theorem dX0_passNumber_0 : decode cX0_passNumber 0 = .ok (.aload_n 0, 1) := by decide +kernel
theorem dX0_passNumber_1 : decode cX0_passNumber 1 = .ok (.getfield 19, 3) := by decide +kernel
theorem dX0_passNumber_4 : decode cX0_passNumber 4 = .ok (.iconst 2, 1) := by decide +kernel
theorem dX0_passNumber_5 : decode cX0_passNumber 5 = .ok (.if_icmp .ne 11, 3) := by decide +kernel
theorem dX0_passNumber_8 : decode cX0_passNumber 8 = .ok (.aload_n 0, 1) := by decide +kernel
theorem dX0_passNumber_9 : decode cX0_passNumber 9 = .ok (.getfield 28, 3) := by decide +kernel
theorem dX0_passNumber_12 : decode cX0_passNumber 12 = .ok (.iload_n 1, 1) := by decide +kernel
theorem dX0_passNumber_13 : decode cX0_passNumber 13 = .ok (.if_icmp .le 5, 3) := by decide +kernel
theorem dX0_passNumber_16 : decode cX0_passNumber 16 = .ok (.iconst 0, 1) := by decide +kernel
theorem dX0_passNumber_17 : decode cX0_passNumber 17 = .ok (.ireturn, 1) := by decide +kernel
theorem dX0_passNumber_18 : decode cX0_passNumber 18 = .ok (.aload_n 0, 1) := by decide +kernel
theorem dX0_passNumber_19 : decode cX0_passNumber 19 = .ok (.invokevirtual 31, 3) := by decide +kernel
theorem dX0_passNumber_22 : decode cX0_passNumber 22 = .ok (.iconst 1, 1) := by decide +kernel
theorem dX0_passNumber_23 : decode cX0_passNumber 23 = .ok (.ireturn, 1) := by decide +kernel
def bX0_passNumber_16 (fu : Nat) (σ : mt_St) : Option (Int32 × mt_St) :=
  some ((0 : Int32), σ)
set_option maxHeartbeats 4000000 in
set_option maxRecDepth 20000 in
theorem vX0_passNumber_16 {K : mt_C} {fu : Nat} {r : Int32} {σf : mt_St} (hQ : mt_R K (some .boolean) (some (.int r)) σf) : ∀ (σ : mt_St), mt_V K cX0_passNumber RX0 2 3 σ 16 [] [] (bX0_passNumber_16 fu σ = some (r, σf)) := by
  intro σ
  unfold bX0_passNumber_16
  refine mv_iconst (v := 0) dX0_passNumber_16 ic_0 ?_
  exact mv_zret0 hQ (by decide) dX0_passNumber_17
def fX0_passNumber (fu : Nat) (σ : mt_St) (a1 : Int32) : Option (Int32 × mt_St) :=
  if (σ 44 2) = (2 : Int32) then
    if (σ 44 5) ≤ a1 then
      mt_call (fX0_advance fu σ) fun _ s2 =>
      some ((1 : Int32), s2)
    else
      bX0_passNumber_16 fu σ
  else
    bX0_passNumber_16 fu σ
set_option maxHeartbeats 4000000 in
set_option maxRecDepth 20000 in
theorem vX0_passNumber {K : mt_C} {fu : Nat} {σ : mt_St} {a1 : Int32} {r : Int32} {σf : mt_St} (hQ : mt_R K (some .boolean) (some (.int r)) σf) : mt_V K cX0_passNumber RX0 2 3 σ 0 [(0, .ref (mt_adr (kG K) 44)), (1, .int a1)] [] (fX0_passNumber fu σ a1 = some (r, σf)) := by
  unfold fX0_passNumber
  refine mv_aload_n 0 dX0_passNumber_0 rfl rfl ?_
  refine mg_X0_2 fl_X0_19 dX0_passNumber_1 ?_
  refine mv_iconst (v := 2) dX0_passNumber_4 ic_2 ?_
  refine mv_icmp_ne 16 dX0_passNumber_5 (by decide) ?_ ?_
  · refine mv_sub (lv' := []) [] rfl ?_
    exact vX0_passNumber_16 hQ σ
  · refine mv_aload_n 0 dX0_passNumber_8 rfl rfl ?_
    refine mg_X0_5 fl_X0_28 dX0_passNumber_9 ?_
    refine mv_iload_n 1 dX0_passNumber_12 rfl rfl ?_
    refine mv_icmp_le 18 dX0_passNumber_13 (by decide) ?_ ?_
    · refine mv_aload_n 0 dX0_passNumber_18 rfl rfl ?_
      refine mv_cVwv (As := []) (st := []) cal_X0_advance ins_X0_advance ml_X0_31 rfl (by decide) rfl rfl (by decide) rfl (Nat.le_of_ble_eq_true rfl) dX0_passNumber_19 (fun r s h => co_X0_advance h) (fun r1 s2 => ?_)
      refine mv_iconst (v := 1) dX0_passNumber_22 ic_1 ?_
      exact mv_zret0 hQ (by decide) dX0_passNumber_23
    · refine mv_sub (lv' := []) [] rfl ?_
      exact vX0_passNumber_16 hQ σ
theorem co_X0_passNumber {l : Launch} {G : mt_G} {fu : Nat} {σ : mt_St} {a1 : Int32} {r : Int32} {σf : mt_St}  (h : fX0_passNumber fu σ a1 = some (r, σf)) : mt_Con l G yX0_passNumber cX0_passNumber 2 (some .boolean) 3 [.ref (mt_adr G 44), .int a1] σ (some (.int r)) σf :=
  mt_con (by decide) (Nat.le_of_ble_eq_true rfl) (fun K hl hG hQ => by subst hl; subst hG; exact fun _ => vX0_passNumber  hQ h)
theorem dX0_readPowers_0 : decode cX0_readPowers 0 = .ok (.aload_n 1, 1) := by decide +kernel
theorem dX0_readPowers_1 : decode cX0_readPowers 1 = .ok (.getfield 80, 3) := by decide +kernel
theorem dX0_readPowers_4 : decode cX0_readPowers 4 = .ok (.bipush 8, 2) := by decide +kernel
theorem dX0_readPowers_6 : decode cX0_readPowers 6 = .ok (.if_icmp .lt 5, 3) := by decide +kernel
theorem dX0_readPowers_9 : decode cX0_readPowers 9 = .ok (.iconst 0, 1) := by decide +kernel
theorem dX0_readPowers_10 : decode cX0_readPowers 10 = .ok (.ireturn, 1) := by decide +kernel
theorem dX0_readPowers_11 : decode cX0_readPowers 11 = .ok (.aload_n 0, 1) := by decide +kernel
theorem dX0_readPowers_12 : decode cX0_readPowers 12 = .ok (.invokevirtual 31, 3) := by decide +kernel
theorem dX0_readPowers_15 : decode cX0_readPowers 15 = .ok (.aload_n 0, 1) := by decide +kernel
theorem dX0_readPowers_16 : decode cX0_readPowers 16 = .ok (.getfield 28, 3) := by decide +kernel
theorem dX0_readPowers_19 : decode cX0_readPowers 19 = .ok (.istore_n 3, 1) := by decide +kernel
theorem dX0_readPowers_20 : decode cX0_readPowers 20 = .ok (.aload_n 0, 1) := by decide +kernel
theorem dX0_readPowers_21 : decode cX0_readPowers 21 = .ok (.iconst 5, 1) := by decide +kernel
theorem dX0_readPowers_22 : decode cX0_readPowers 22 = .ok (.invokevirtual 59, 3) := by decide +kernel
theorem dX0_readPowers_25 : decode cX0_readPowers 25 = .ok (.ifCond .ne 5, 3) := by decide +kernel
theorem dX0_readPowers_28 : decode cX0_readPowers 28 = .ok (.iconst 0, 1) := by decide +kernel
theorem dX0_readPowers_29 : decode cX0_readPowers 29 = .ok (.ireturn, 1) := by decide +kernel
theorem dX0_readPowers_30 : decode cX0_readPowers 30 = .ok (.aload_n 0, 1) := by decide +kernel
theorem dX0_readPowers_31 : decode cX0_readPowers 31 = .ok (.getfield 28, 3) := by decide +kernel
theorem dX0_readPowers_34 : decode cX0_readPowers 34 = .ok (.istore 4, 2) := by decide +kernel
theorem dX0_readPowers_36 : decode cX0_readPowers 36 = .ok (.iload 4, 2) := by decide +kernel
theorem dX0_readPowers_38 : decode cX0_readPowers 38 = .ok (.iload_n 3, 1) := by decide +kernel
theorem dX0_readPowers_39 : decode cX0_readPowers 39 = .ok (.if_icmp .eq 11, 3) := by decide +kernel
theorem dX0_readPowers_42 : decode cX0_readPowers 42 = .ok (.aload_n 0, 1) := by decide +kernel
theorem dX0_readPowers_43 : decode cX0_readPowers 43 = .ok (.iconst 5, 1) := by decide +kernel
theorem dX0_readPowers_44 : decode cX0_readPowers 44 = .ok (.invokevirtual 59, 3) := by decide +kernel
theorem dX0_readPowers_47 : decode cX0_readPowers 47 = .ok (.ifCond .ne 5, 3) := by decide +kernel
theorem dX0_readPowers_50 : decode cX0_readPowers 50 = .ok (.iconst 0, 1) := by decide +kernel
theorem dX0_readPowers_51 : decode cX0_readPowers 51 = .ok (.ireturn, 1) := by decide +kernel
theorem dX0_readPowers_52 : decode cX0_readPowers 52 = .ok (.aload_n 1, 1) := by decide +kernel
theorem dX0_readPowers_53 : decode cX0_readPowers 53 = .ok (.iload_n 2, 1) := by decide +kernel
theorem dX0_readPowers_54 : decode cX0_readPowers 54 = .ok (.iload_n 3, 1) := by decide +kernel
theorem dX0_readPowers_55 : decode cX0_readPowers 55 = .ok (.iload 4, 2) := by decide +kernel
theorem dX0_readPowers_57 : decode cX0_readPowers 57 = .ok (.invokevirtual 83, 3) := by decide +kernel
theorem dX0_readPowers_60 : decode cX0_readPowers 60 = .ok (.iconst 1, 1) := by decide +kernel
theorem dX0_readPowers_61 : decode cX0_readPowers 61 = .ok (.ireturn, 1) := by decide +kernel
def bX0_readPowers_50 (fu : Nat) (a1 : Nat) (σ : mt_St) : Option (Int32 × mt_St) :=
  some ((0 : Int32), σ)
set_option maxHeartbeats 4000000 in
set_option maxRecDepth 20000 in
theorem vX0_readPowers_50 {K : mt_C} {fu : Nat} {a1 : Nat} {r : Int32} {σf : mt_St} (ha1 : mt_kd a1 = 4) (hQ : mt_R K (some .boolean) (some (.int r)) σf) : ∀ (σ : mt_St), mt_V K cX0_readPowers RX0 5 4 σ 50 [] [] (bX0_readPowers_50 fu a1 σ = some (r, σf)) := by
  intro σ
  unfold bX0_readPowers_50
  refine mv_iconst (v := 0) dX0_readPowers_50 ic_0 ?_
  exact mv_zret0 hQ (by decide) dX0_readPowers_51
def fX0_readPowers (fu : Nat) (σ : mt_St) (a1 : Nat) (a2 : Int32) : Option (Int32 × mt_St) :=
  if (σ a1 7) < (8 : Int32) then
    mt_call (fX0_advance fu σ) fun _ s2 =>
    mt_call (fX0_passNumber fu s2 (5 : Int32)) fun r3 s4 =>
    if r3 = 0 then
      some ((0 : Int32), s4)
    else
      if (s4 44 5) = (s2 44 5) then
        bX0_readPowers_50 fu a1 s4
      else
        mt_call (fX0_passNumber fu s4 (5 : Int32)) fun r5 s6 =>
        if r5 = 0 then
          bX0_readPowers_50 fu a1 s6
        else
          mt_call (fX4_sign fu s6 a1 a2 (s2 44 5) (s4 44 5)) fun _ s8 =>
          some ((1 : Int32), s8)
  else
    some ((0 : Int32), σ)
set_option maxHeartbeats 4000000 in
set_option maxRecDepth 20000 in
theorem vX0_readPowers {K : mt_C} {fu : Nat} {σ : mt_St} {a1 : Nat} {a2 : Int32} {r : Int32} {σf : mt_St} (ha1 : mt_kd a1 = 4) (hQ : mt_R K (some .boolean) (some (.int r)) σf) : mt_V K cX0_readPowers RX0 5 4 σ 0 [(0, .ref (mt_adr (kG K) 44)), (1, .ref (mt_adr (kG K) a1)), (2, .int a2)] [] (fX0_readPowers fu σ a1 a2 = some (r, σf)) := by
  unfold fX0_readPowers
  refine mv_aload_n 1 dX0_readPowers_0 rfl rfl ?_
  refine mg_X4_7 ha1 fl_X0_80 dX0_readPowers_1 ?_
  refine mv_bipush (v := 8) dX0_readPowers_4 bp_8 ?_
  refine mv_icmp_lt 11 dX0_readPowers_6 (by decide) ?_ ?_
  · refine mv_aload_n 0 dX0_readPowers_11 rfl rfl ?_
    refine mv_cVwv (As := []) (st := []) cal_X0_advance ins_X0_advance ml_X0_31 rfl (by decide) rfl rfl (by decide) rfl (Nat.le_of_ble_eq_true rfl) dX0_readPowers_12 (fun r s h => co_X0_advance h) (fun r1 s2 => ?_)
    refine mv_aload_n 0 dX0_readPowers_15 rfl rfl ?_
    refine mg_X0_5 fl_X0_28 dX0_readPowers_16 ?_
    refine mv_istore_n (lv' := [(0, .ref (mt_adr (kG K) 44)), (1, .ref (mt_adr (kG K) a1)), (2, .int a2), (3, .int (s2 44 5))]) [1, 2, 3, 0] dX0_readPowers_19 rfl (by decide) rfl ?_
    refine mv_aload_n 0 dX0_readPowers_20 rfl rfl ?_
    refine mv_iconst (v := 5) dX0_readPowers_21 ic_5 ?_
    refine mv_cVwi (As := [.int (5 : Int32)]) (st := []) cal_X0_passNumber ins_X0_passNumber ml_X0_59 rfl (by decide) rfl rfl (by decide) rfl (Nat.le_of_ble_eq_true rfl) dX0_readPowers_22 (fun r s h => co_X0_passNumber h) (fun r3 s4 => ?_)
    refine mv_if_ne 30 dX0_readPowers_25 (by decide) ?_ ?_
    · refine mv_aload_n 0 dX0_readPowers_30 rfl rfl ?_
      refine mg_X0_5 fl_X0_28 dX0_readPowers_31 ?_
      refine mv_istore (lv' := [(0, .ref (mt_adr (kG K) 44)), (1, .ref (mt_adr (kG K) a1)), (2, .int a2), (3, .int (s2 44 5)), (4, .int (s4 44 5))]) [1, 2, 3, 4, 0] dX0_readPowers_34 (by decide) rfl ?_
      refine mv_iload 4 dX0_readPowers_36 rfl ?_
      refine mv_iload_n 3 dX0_readPowers_38 rfl rfl ?_
      refine mv_icmp_eq 50 dX0_readPowers_39 (by decide) ?_ ?_
      · refine mv_sub (lv' := []) [] rfl ?_
        exact vX0_readPowers_50 ha1 hQ s4
      · refine mv_aload_n 0 dX0_readPowers_42 rfl rfl ?_
        refine mv_iconst (v := 5) dX0_readPowers_43 ic_5 ?_
        refine mv_cVwi (As := [.int (5 : Int32)]) (st := []) cal_X0_passNumber ins_X0_passNumber ml_X0_59 rfl (by decide) rfl rfl (by decide) rfl (Nat.le_of_ble_eq_true rfl) dX0_readPowers_44 (fun r s h => co_X0_passNumber h) (fun r5 s6 => ?_)
        refine mv_if_ne 52 dX0_readPowers_47 (by decide) ?_ ?_
        · refine mv_aload_n 1 dX0_readPowers_52 rfl rfl ?_
          refine mv_iload_n 2 dX0_readPowers_53 rfl rfl ?_
          refine mv_iload_n 3 dX0_readPowers_54 rfl rfl ?_
          refine mv_iload 4 dX0_readPowers_55 rfl ?_
          refine mv_cVwv (As := [.int a2, .int (s2 44 5), .int (s4 44 5)]) (st := []) cal_X4_sign ins_X4_sign ml_X0_83 ha1 (by decide) rfl rfl (by decide) rfl (Nat.le_of_ble_eq_true rfl) dX0_readPowers_57 (fun r s h => co_X4_sign ha1 h) (fun r7 s8 => ?_)
          refine mv_iconst (v := 1) dX0_readPowers_60 ic_1 ?_
          exact mv_zret0 hQ (by decide) dX0_readPowers_61
        · refine mv_sub (lv' := []) [] rfl ?_
          exact vX0_readPowers_50 ha1 hQ s6
    · refine mv_iconst (v := 0) dX0_readPowers_28 ic_0 ?_
      exact mv_zret0 hQ (by decide) dX0_readPowers_29
  · refine mv_iconst (v := 0) dX0_readPowers_9 ic_0 ?_
    exact mv_zret0 hQ (by decide) dX0_readPowers_10
theorem co_X0_readPowers {l : Launch} {G : mt_G} {fu : Nat} {σ : mt_St} {a1 : Nat} {a2 : Int32} {r : Int32} {σf : mt_St} (ha1 : mt_kd a1 = 4) (h : fX0_readPowers fu σ a1 a2 = some (r, σf)) : mt_Con l G yX0_readPowers cX0_readPowers 5 (some .boolean) 4 [.ref (mt_adr G 44), .ref (mt_adr G a1), .int a2] σ (some (.int r)) σf :=
  mt_con (by decide) (Nat.le_of_ble_eq_true rfl) (fun K hl hG hQ => by subst hl; subst hG; exact fun _ => vX0_readPowers ha1 hQ h)
theorem dX0_readTerms_0 : decode cX0_readTerms 0 = .ok (.aload_n 1, 1) := by decide +kernel
theorem dX0_readTerms_1 : decode cX0_readTerms 1 = .ok (.getfield 80, 3) := by decide +kernel
theorem dX0_readTerms_4 : decode cX0_readTerms 4 = .ok (.iconst 1, 1) := by decide +kernel
theorem dX0_readTerms_5 : decode cX0_readTerms 5 = .ok (.isub, 1) := by decide +kernel
theorem dX0_readTerms_6 : decode cX0_readTerms 6 = .ok (.bipush 7, 2) := by decide +kernel
theorem dX0_readTerms_8 : decode cX0_readTerms 8 = .ok (.invokestatic 72, 3) := by decide +kernel
theorem dX0_readTerms_11 : decode cX0_readTerms 11 = .ok (.ifCond .ne 5, 3) := by decide +kernel
theorem dX0_readTerms_14 : decode cX0_readTerms 14 = .ok (.iconst 0, 1) := by decide +kernel
theorem dX0_readTerms_15 : decode cX0_readTerms 15 = .ok (.ireturn, 1) := by decide +kernel
theorem dX0_readTerms_16 : decode cX0_readTerms 16 = .ok (.aload_n 1, 1) := by decide +kernel
theorem dX0_readTerms_17 : decode cX0_readTerms 17 = .ok (.getfield 87, 3) := by decide +kernel
theorem dX0_readTerms_20 : decode cX0_readTerms 20 = .ok (.aload_n 1, 1) := by decide +kernel
theorem dX0_readTerms_21 : decode cX0_readTerms 21 = .ok (.getfield 80, 3) := by decide +kernel
theorem dX0_readTerms_24 : decode cX0_readTerms 24 = .ok (.iconst 1, 1) := by decide +kernel
theorem dX0_readTerms_25 : decode cX0_readTerms 25 = .ok (.isub, 1) := by decide +kernel
theorem dX0_readTerms_26 : decode cX0_readTerms 26 = .ok (.aaload, 1) := by decide +kernel
theorem dX0_readTerms_27 : decode cX0_readTerms 27 = .ok (.astore_n 2, 1) := by decide +kernel
theorem dX0_readTerms_28 : decode cX0_readTerms 28 = .ok (.aload_n 0, 1) := by decide +kernel
theorem dX0_readTerms_29 : decode cX0_readTerms 29 = .ok (.ldc 91, 2) := by decide +kernel
theorem dX0_readTerms_31 : decode cX0_readTerms 31 = .ok (.invokevirtual 51, 3) := by decide +kernel
theorem dX0_readTerms_34 : decode cX0_readTerms 34 = .ok (.ifCond .eq 27, 3) := by decide +kernel
theorem dX0_readTerms_37 : decode cX0_readTerms 37 = .ok (.aload_n 0, 1) := by decide +kernel
theorem dX0_readTerms_38 : decode cX0_readTerms 38 = .ok (.invokevirtual 31, 3) := by decide +kernel
theorem dX0_readTerms_41 : decode cX0_readTerms 41 = .ok (.aload_n 2, 1) := by decide +kernel
theorem dX0_readTerms_42 : decode cX0_readTerms 42 = .ok (.aload_n 0, 1) := by decide +kernel
theorem dX0_readTerms_43 : decode cX0_readTerms 43 = .ok (.getfield 28, 3) := by decide +kernel
theorem dX0_readTerms_46 : decode cX0_readTerms 46 = .ok (.putfield 93, 3) := by decide +kernel
theorem dX0_readTerms_49 : decode cX0_readTerms 49 = .ok (.aload_n 0, 1) := by decide +kernel
theorem dX0_readTerms_50 : decode cX0_readTerms 50 = .ok (.sipush 4095, 3) := by decide +kernel
theorem dX0_readTerms_53 : decode cX0_readTerms 53 = .ok (.invokevirtual 59, 3) := by decide +kernel
theorem dX0_readTerms_56 : decode cX0_readTerms 56 = .ok (.ifCond .ne 5, 3) := by decide +kernel
theorem dX0_readTerms_59 : decode cX0_readTerms 59 = .ok (.iconst 0, 1) := by decide +kernel
theorem dX0_readTerms_60 : decode cX0_readTerms 60 = .ok (.ireturn, 1) := by decide +kernel
theorem dX0_readTerms_61 : decode cX0_readTerms 61 = .ok (.aload_n 0, 1) := by decide +kernel
theorem dX0_readTerms_62 : decode cX0_readTerms 62 = .ok (.ldc 97, 2) := by decide +kernel
theorem dX0_readTerms_64 : decode cX0_readTerms 64 = .ok (.invokevirtual 51, 3) := by decide +kernel
theorem dX0_readTerms_67 : decode cX0_readTerms 67 = .ok (.ifCond .eq 27, 3) := by decide +kernel
theorem dX0_readTerms_70 : decode cX0_readTerms 70 = .ok (.aload_n 0, 1) := by decide +kernel
theorem dX0_readTerms_71 : decode cX0_readTerms 71 = .ok (.invokevirtual 31, 3) := by decide +kernel
theorem dX0_readTerms_74 : decode cX0_readTerms 74 = .ok (.aload_n 2, 1) := by decide +kernel
theorem dX0_readTerms_75 : decode cX0_readTerms 75 = .ok (.aload_n 0, 1) := by decide +kernel
theorem dX0_readTerms_76 : decode cX0_readTerms 76 = .ok (.getfield 28, 3) := by decide +kernel
theorem dX0_readTerms_79 : decode cX0_readTerms 79 = .ok (.putfield 99, 3) := by decide +kernel
theorem dX0_readTerms_82 : decode cX0_readTerms 82 = .ok (.aload_n 0, 1) := by decide +kernel
theorem dX0_readTerms_83 : decode cX0_readTerms 83 = .ok (.sipush 9999, 3) := by decide +kernel
theorem dX0_readTerms_86 : decode cX0_readTerms 86 = .ok (.invokevirtual 59, 3) := by decide +kernel
theorem dX0_readTerms_89 : decode cX0_readTerms 89 = .ok (.ifCond .ne 5, 3) := by decide +kernel
theorem dX0_readTerms_92 : decode cX0_readTerms 92 = .ok (.iconst 0, 1) := by decide +kernel
theorem dX0_readTerms_93 : decode cX0_readTerms 93 = .ok (.ireturn, 1) := by decide +kernel
theorem dX0_readTerms_94 : decode cX0_readTerms 94 = .ok (.aload_n 0, 1) := by decide +kernel
theorem dX0_readTerms_95 : decode cX0_readTerms 95 = .ok (.ldc 101, 2) := by decide +kernel
theorem dX0_readTerms_97 : decode cX0_readTerms 97 = .ok (.invokevirtual 51, 3) := by decide +kernel
theorem dX0_readTerms_100 : decode cX0_readTerms 100 = .ok (.ifCond .eq 12, 3) := by decide +kernel
theorem dX0_readTerms_103 : decode cX0_readTerms 103 = .ok (.aload_n 0, 1) := by decide +kernel
theorem dX0_readTerms_104 : decode cX0_readTerms 104 = .ok (.invokevirtual 31, 3) := by decide +kernel
theorem dX0_readTerms_107 : decode cX0_readTerms 107 = .ok (.aload_n 2, 1) := by decide +kernel
theorem dX0_readTerms_108 : decode cX0_readTerms 108 = .ok (.iconst 0, 1) := by decide +kernel
theorem dX0_readTerms_109 : decode cX0_readTerms 109 = .ok (.putfield 103, 3) := by decide +kernel
theorem dX0_readTerms_112 : decode cX0_readTerms 112 = .ok (.iconst 1, 1) := by decide +kernel
theorem dX0_readTerms_113 : decode cX0_readTerms 113 = .ok (.ireturn, 1) := by decide +kernel
def bX0_readTerms_112 (fu : Nat) (a1 : Nat) (σ : mt_St) : Option (Int32 × mt_St) :=
  some ((1 : Int32), σ)
set_option maxHeartbeats 4000000 in
set_option maxRecDepth 20000 in
theorem vX0_readTerms_112 {K : mt_C} {fu : Nat} {a1 : Nat} {r : Int32} {σf : mt_St} (ha1 : mt_kd a1 = 4) (hQ : mt_R K (some .boolean) (some (.int r)) σf) : ∀ (σ : mt_St), mt_V K cX0_readTerms RX0 3 5 σ 112 [] [] (bX0_readTerms_112 fu a1 σ = some (r, σf)) := by
  intro σ
  unfold bX0_readTerms_112
  refine mv_iconst (v := 1) dX0_readTerms_112 ic_1 ?_
  exact mv_zret0 hQ (by decide) dX0_readTerms_113
def bX0_readTerms_94 (fu : Nat) (a1 : Nat) (σ : mt_St) (x2 : Nat) : Option (Int32 × mt_St) :=
  mt_ask (fX0_isWord fu σ 9) fun r1 =>
  if r1 = 0 then
    bX0_readTerms_112 fu a1 σ
  else
    mt_call (fX0_advance fu σ) fun _ s3 =>
    mt_bnd (mt_up s3 x2 4 (0 : Int32)) fun s4 =>
    bX0_readTerms_112 fu a1 s4
set_option maxHeartbeats 4000000 in
set_option maxRecDepth 20000 in
theorem vX0_readTerms_94 {K : mt_C} {fu : Nat} {a1 : Nat} {r : Int32} {σf : mt_St} (ha1 : mt_kd a1 = 4) (hQ : mt_R K (some .boolean) (some (.int r)) σf) : ∀ (σ : mt_St) (x2 : Nat) (hx2 : mt_kd x2 = 3), mt_V K cX0_readTerms RX0 3 5 σ 94 [(0, .ref (mt_adr (kG K) 44)), (2, .ref (mt_adr (kG K) x2))] [] (bX0_readTerms_94 fu a1 σ x2 = some (r, σf)) := by
  intro σ x2 hx2
  unfold bX0_readTerms_94
  refine mv_aload_n 0 dX0_readTerms_94 rfl rfl ?_
  refine mv_ldcS (List.mem_of_getElem? (i := 9) rfl) dX0_readTerms_95 ?_
  refine mv_cVri (As := [.ref (mt_aK (kG K) 9)]) (st := []) cal_X0_isWord ins_X0_isWord ml_X0_51 rfl (by decide) rfl rfl (by decide) rfl (Nat.le_of_ble_eq_true rfl) dX0_readTerms_97 (fun r h => co_X0_isWord (by decide) h) (fun r1 => ?_)
  refine mv_if_eq 112 dX0_readTerms_100 (by decide) ?_ ?_
  · refine mv_sub (lv' := []) [] rfl ?_
    exact vX0_readTerms_112 ha1 hQ σ
  · refine mv_aload_n 0 dX0_readTerms_103 rfl rfl ?_
    refine mv_cVwv (As := []) (st := []) cal_X0_advance ins_X0_advance ml_X0_31 rfl (by decide) rfl rfl (by decide) rfl (Nat.le_of_ble_eq_true rfl) dX0_readTerms_104 (fun r s h => co_X0_advance h) (fun r2 s3 => ?_)
    refine mv_aload_n 1 dX0_readTerms_107 rfl rfl ?_
    refine mv_iconst (v := 0) dX0_readTerms_108 ic_0 ?_
    refine mp_X3_4 hx2 fl_X0_103 dX0_readTerms_109 (fun s4 => ?_)
    refine mv_sub (lv' := []) [] rfl ?_
    exact vX0_readTerms_112 ha1 hQ s4
def bX0_readTerms_61 (fu : Nat) (a1 : Nat) (σ : mt_St) (x2 : Nat) : Option (Int32 × mt_St) :=
  mt_ask (fX0_isWord fu σ 8) fun r1 =>
  if r1 = 0 then
    bX0_readTerms_94 fu a1 σ x2
  else
    mt_call (fX0_advance fu σ) fun _ s3 =>
    mt_bnd (mt_up s3 x2 5 (s3 44 5)) fun s4 =>
    mt_call (fX0_passNumber fu s4 (9999 : Int32)) fun r5 s6 =>
    if r5 = 0 then
      some ((0 : Int32), s6)
    else
      bX0_readTerms_94 fu a1 s6 x2
set_option maxHeartbeats 4000000 in
set_option maxRecDepth 20000 in
theorem vX0_readTerms_61 {K : mt_C} {fu : Nat} {a1 : Nat} {r : Int32} {σf : mt_St} (ha1 : mt_kd a1 = 4) (hQ : mt_R K (some .boolean) (some (.int r)) σf) : ∀ (σ : mt_St) (x2 : Nat) (hx2 : mt_kd x2 = 3), mt_V K cX0_readTerms RX0 3 5 σ 61 [(0, .ref (mt_adr (kG K) 44)), (2, .ref (mt_adr (kG K) x2))] [] (bX0_readTerms_61 fu a1 σ x2 = some (r, σf)) := by
  intro σ x2 hx2
  unfold bX0_readTerms_61
  refine mv_aload_n 0 dX0_readTerms_61 rfl rfl ?_
  refine mv_ldcS (List.mem_of_getElem? (i := 8) rfl) dX0_readTerms_62 ?_
  refine mv_cVri (As := [.ref (mt_aK (kG K) 8)]) (st := []) cal_X0_isWord ins_X0_isWord ml_X0_51 rfl (by decide) rfl rfl (by decide) rfl (Nat.le_of_ble_eq_true rfl) dX0_readTerms_64 (fun r h => co_X0_isWord (by decide) h) (fun r1 => ?_)
  refine mv_if_eq 94 dX0_readTerms_67 (by decide) ?_ ?_
  · exact vX0_readTerms_94 ha1 hQ σ x2 hx2
  · refine mv_aload_n 0 dX0_readTerms_70 rfl rfl ?_
    refine mv_cVwv (As := []) (st := []) cal_X0_advance ins_X0_advance ml_X0_31 rfl (by decide) rfl rfl (by decide) rfl (Nat.le_of_ble_eq_true rfl) dX0_readTerms_71 (fun r s h => co_X0_advance h) (fun r2 s3 => ?_)
    refine mv_aload_n 1 dX0_readTerms_74 rfl rfl ?_
    refine mv_aload_n 0 dX0_readTerms_75 rfl rfl ?_
    refine mg_X0_5 fl_X0_28 dX0_readTerms_76 ?_
    refine mp_X3_5 hx2 fl_X0_99 dX0_readTerms_79 (fun s4 => ?_)
    refine mv_aload_n 0 dX0_readTerms_82 rfl rfl ?_
    refine mv_sipush (v := 9999) dX0_readTerms_83 sp_9999 ?_
    refine mv_cVwi (As := [.int (9999 : Int32)]) (st := []) cal_X0_passNumber ins_X0_passNumber ml_X0_59 rfl (by decide) rfl rfl (by decide) rfl (Nat.le_of_ble_eq_true rfl) dX0_readTerms_86 (fun r s h => co_X0_passNumber h) (fun r5 s6 => ?_)
    refine mv_if_ne 94 dX0_readTerms_89 (by decide) ?_ ?_
    · exact vX0_readTerms_94 ha1 hQ s6 x2 hx2
    · refine mv_iconst (v := 0) dX0_readTerms_92 ic_0 ?_
      exact mv_zret0 hQ (by decide) dX0_readTerms_93
def fX0_readTerms (fu : Nat) (σ : mt_St) (a1 : Nat) : Option (Int32 × mt_St) :=
  mt_ask (fX5_isWithin fu ((σ a1 7) - (1 : Int32)) (7 : Int32)) fun r1 =>
  if r1 = 0 then
    some ((0 : Int32), σ)
  else
    mt_chk (mt_in ((σ a1 7) - (1 : Int32)) 8) <|
    mt_ask (fX0_isWord fu σ 7) fun r3 =>
    if r3 = 0 then
      bX0_readTerms_61 fu a1 σ ((a1 + 2) + 2 + Int32.toNatClampNeg ((σ a1 7) - (1 : Int32)))
    else
      mt_call (fX0_advance fu σ) fun _ s5 =>
      mt_bnd (mt_up s5 ((a1 + 2) + 2 + Int32.toNatClampNeg ((σ a1 7) - (1 : Int32))) 3 (s5 44 5)) fun s6 =>
      mt_call (fX0_passNumber fu s6 (4095 : Int32)) fun r7 s8 =>
      if r7 = 0 then
        some ((0 : Int32), s8)
      else
        bX0_readTerms_61 fu a1 s8 ((a1 + 2) + 2 + Int32.toNatClampNeg ((σ a1 7) - (1 : Int32)))
set_option maxHeartbeats 4000000 in
set_option maxRecDepth 20000 in
theorem vX0_readTerms {K : mt_C} {fu : Nat} {σ : mt_St} {a1 : Nat} {r : Int32} {σf : mt_St} (ha1 : mt_kd a1 = 4) (hQ : mt_R K (some .boolean) (some (.int r)) σf) : mt_V K cX0_readTerms RX0 3 5 σ 0 [(0, .ref (mt_adr (kG K) 44)), (1, .ref (mt_adr (kG K) a1))] [] (fX0_readTerms fu σ a1 = some (r, σf)) := by
  unfold fX0_readTerms
  refine mv_aload_n 1 dX0_readTerms_0 rfl rfl ?_
  refine mg_X4_7 ha1 fl_X0_80 dX0_readTerms_1 ?_
  refine mv_iconst (v := 1) dX0_readTerms_4 ic_1 ?_
  refine mv_isub dX0_readTerms_5 ?_
  refine mv_bipush (v := 7) dX0_readTerms_6 bp_7 ?_
  refine mv_cSri (As := [.int ((σ a1 7) - (1 : Int32)), .int (7 : Int32)]) (st := []) cal_X5_isWithin sta_X5_isWithin ml_X0_72 rfl (by decide) rfl (Nat.le_of_ble_eq_true rfl) dX0_readTerms_8 (fun r h => co_X5_isWithin h) (fun r1 => ?_)
  refine mv_if_ne 16 dX0_readTerms_11 (by decide) ?_ ?_
  · refine mv_aload_n 1 dX0_readTerms_16 rfl rfl ?_
    refine mg_X4_6 ha1 fl_X0_87 dX0_readTerms_17 ?_
    refine mv_aload_n 1 dX0_readTerms_20 rfl rfl ?_
    refine mg_X4_7 ha1 fl_X0_80 dX0_readTerms_21 ?_
    refine mv_iconst (v := 1) dX0_readTerms_24 ic_1 ?_
    refine mv_isub dX0_readTerms_25 ?_
    refine mv_aaldT (kd_w2 ha1) (ln_w2 ha1) dX0_readTerms_26 (fun h2 => ?_)
    refine mv_astore_n (lv' := [(0, .ref (mt_adr (kG K) 44)), (2, .ref (mt_adr (kG K) ((a1 + 2) + 2 + Int32.toNatClampNeg ((σ a1 7) - (1 : Int32)))))]) [1, 0] dX0_readTerms_27 rfl (by decide) rfl ?_
    refine mv_aload_n 0 dX0_readTerms_28 rfl rfl ?_
    refine mv_ldcS (List.mem_of_getElem? (i := 7) rfl) dX0_readTerms_29 ?_
    refine mv_cVri (As := [.ref (mt_aK (kG K) 7)]) (st := []) cal_X0_isWord ins_X0_isWord ml_X0_51 rfl (by decide) rfl rfl (by decide) rfl (Nat.le_of_ble_eq_true rfl) dX0_readTerms_31 (fun r h => co_X0_isWord (by decide) h) (fun r3 => ?_)
    refine mv_if_eq 61 dX0_readTerms_34 (by decide) ?_ ?_
    · exact vX0_readTerms_61 ha1 hQ σ ((a1 + 2) + 2 + Int32.toNatClampNeg ((σ a1 7) - (1 : Int32))) (kd_tr (kd_w2 ha1) h2)
    · refine mv_aload_n 0 dX0_readTerms_37 rfl rfl ?_
      refine mv_cVwv (As := []) (st := []) cal_X0_advance ins_X0_advance ml_X0_31 rfl (by decide) rfl rfl (by decide) rfl (Nat.le_of_ble_eq_true rfl) dX0_readTerms_38 (fun r s h => co_X0_advance h) (fun r4 s5 => ?_)
      refine mv_aload_n 1 dX0_readTerms_41 rfl rfl ?_
      refine mv_aload_n 0 dX0_readTerms_42 rfl rfl ?_
      refine mg_X0_5 fl_X0_28 dX0_readTerms_43 ?_
      refine mp_X3_3 (kd_tr (kd_w2 ha1) h2) fl_X0_93 dX0_readTerms_46 (fun s6 => ?_)
      refine mv_aload_n 0 dX0_readTerms_49 rfl rfl ?_
      refine mv_sipush (v := 4095) dX0_readTerms_50 sp_4095 ?_
      refine mv_cVwi (As := [.int (4095 : Int32)]) (st := []) cal_X0_passNumber ins_X0_passNumber ml_X0_59 rfl (by decide) rfl rfl (by decide) rfl (Nat.le_of_ble_eq_true rfl) dX0_readTerms_53 (fun r s h => co_X0_passNumber h) (fun r7 s8 => ?_)
      refine mv_if_ne 61 dX0_readTerms_56 (by decide) ?_ ?_
      · exact vX0_readTerms_61 ha1 hQ s8 ((a1 + 2) + 2 + Int32.toNatClampNeg ((σ a1 7) - (1 : Int32))) (kd_tr (kd_w2 ha1) h2)
      · refine mv_iconst (v := 0) dX0_readTerms_59 ic_0 ?_
        exact mv_zret0 hQ (by decide) dX0_readTerms_60
  · refine mv_iconst (v := 0) dX0_readTerms_14 ic_0 ?_
    exact mv_zret0 hQ (by decide) dX0_readTerms_15
theorem co_X0_readTerms {l : Launch} {G : mt_G} {fu : Nat} {σ : mt_St} {a1 : Nat} {r : Int32} {σf : mt_St} (ha1 : mt_kd a1 = 4) (h : fX0_readTerms fu σ a1 = some (r, σf)) : mt_Con l G yX0_readTerms cX0_readTerms 3 (some .boolean) 5 [.ref (mt_adr G 44), .ref (mt_adr G a1)] σ (some (.int r)) σf :=
  mt_con (by decide) (Nat.le_of_ble_eq_true rfl) (fun K hl hG hQ => by subst hl; subst hG; exact fun _ => vX0_readTerms ha1 hQ h)
theorem dX0_readEvent_0 : decode cX0_readEvent 0 = .ok (.aload_n 0, 1) := by decide +kernel
theorem dX0_readEvent_1 : decode cX0_readEvent 1 = .ok (.invokevirtual 31, 3) := by decide +kernel
theorem dX0_readEvent_4 : decode cX0_readEvent 4 = .ok (.aload_n 0, 1) := by decide +kernel
theorem dX0_readEvent_5 : decode cX0_readEvent 5 = .ok (.getfield 28, 3) := by decide +kernel
theorem dX0_readEvent_8 : decode cX0_readEvent 8 = .ok (.istore_n 2, 1) := by decide +kernel
theorem dX0_readEvent_9 : decode cX0_readEvent 9 = .ok (.aload_n 0, 1) := by decide +kernel
theorem dX0_readEvent_10 : decode cX0_readEvent 10 = .ok (.iconst 5, 1) := by decide +kernel
theorem dX0_readEvent_11 : decode cX0_readEvent 11 = .ok (.invokevirtual 59, 3) := by decide +kernel
theorem dX0_readEvent_14 : decode cX0_readEvent 14 = .ok (.ifCond .ne 5, 3) := by decide +kernel
theorem dX0_readEvent_17 : decode cX0_readEvent 17 = .ok (.iconst 0, 1) := by decide +kernel
theorem dX0_readEvent_18 : decode cX0_readEvent 18 = .ok (.ireturn, 1) := by decide +kernel
theorem dX0_readEvent_19 : decode cX0_readEvent 19 = .ok (.iload_n 2, 1) := by decide +kernel
theorem dX0_readEvent_20 : decode cX0_readEvent 20 = .ok (.iconst 5, 1) := by decide +kernel
theorem dX0_readEvent_21 : decode cX0_readEvent 21 = .ok (.invokestatic 72, 3) := by decide +kernel
theorem dX0_readEvent_24 : decode cX0_readEvent 24 = .ok (.ifCond .eq 13, 3) := by decide +kernel
theorem dX0_readEvent_27 : decode cX0_readEvent 27 = .ok (.aload_n 1, 1) := by decide +kernel
theorem dX0_readEvent_28 : decode cX0_readEvent 28 = .ok (.getfield 76, 3) := by decide +kernel
theorem dX0_readEvent_31 : decode cX0_readEvent 31 = .ok (.iload_n 2, 1) := by decide +kernel
theorem dX0_readEvent_32 : decode cX0_readEvent 32 = .ok (.aload_n 0, 1) := by decide +kernel
theorem dX0_readEvent_33 : decode cX0_readEvent 33 = .ok (.getfield 28, 3) := by decide +kernel
theorem dX0_readEvent_36 : decode cX0_readEvent 36 = .ok (.iastore, 1) := by decide +kernel
theorem dX0_readEvent_37 : decode cX0_readEvent 37 = .ok (.aload_n 0, 1) := by decide +kernel
theorem dX0_readEvent_38 : decode cX0_readEvent 38 = .ok (.bipush 12, 2) := by decide +kernel
theorem dX0_readEvent_40 : decode cX0_readEvent 40 = .ok (.invokevirtual 59, 3) := by decide +kernel
theorem dX0_readEvent_43 : decode cX0_readEvent 43 = .ok (.ireturn, 1) := by decide +kernel
def bX0_readEvent_37 (fu : Nat) (a1 : Nat) (σ : mt_St) : Option (Int32 × mt_St) :=
  mt_call (fX0_passNumber fu σ (12 : Int32)) fun r1 s2 =>
  mt_chk (mt_b01 r1) (some (r1, s2))
set_option maxHeartbeats 4000000 in
set_option maxRecDepth 20000 in
theorem vX0_readEvent_37 {K : mt_C} {fu : Nat} {a1 : Nat} {r : Int32} {σf : mt_St} (ha1 : mt_kd a1 = 4) (hQ : mt_R K (some .boolean) (some (.int r)) σf) : ∀ (σ : mt_St), mt_V K cX0_readEvent RX0 3 4 σ 37 [(0, .ref (mt_adr (kG K) 44))] [] (bX0_readEvent_37 fu a1 σ = some (r, σf)) := by
  intro σ
  unfold bX0_readEvent_37
  refine mv_aload_n 0 dX0_readEvent_37 rfl rfl ?_
  refine mv_bipush (v := 12) dX0_readEvent_38 bp_12 ?_
  refine mv_cVwi (As := [.int (12 : Int32)]) (st := []) cal_X0_passNumber ins_X0_passNumber ml_X0_59 rfl (by decide) rfl rfl (by decide) rfl (Nat.le_of_ble_eq_true rfl) dX0_readEvent_40 (fun r s h => co_X0_passNumber h) (fun r1 s2 => ?_)
  exact mv_zret hQ dX0_readEvent_43
def fX0_readEvent (fu : Nat) (σ : mt_St) (a1 : Nat) : Option (Int32 × mt_St) :=
  mt_call (fX0_advance fu σ) fun _ s2 =>
  mt_call (fX0_passNumber fu s2 (5 : Int32)) fun r3 s4 =>
  if r3 = 0 then
    some ((0 : Int32), s4)
  else
    mt_ask (fX5_isWithin fu (s2 44 5) (5 : Int32)) fun r5 =>
    if r5 = 0 then
      bX0_readEvent_37 fu a1 s4
    else
      mt_chk (mt_in (s2 44 5) 6) <|
      mt_bnd (mt_up s4 (a1 + 1) (Int32.toNatClampNeg (s2 44 5)) (s4 44 5)) fun s6 =>
      bX0_readEvent_37 fu a1 s6
set_option maxHeartbeats 4000000 in
set_option maxRecDepth 20000 in
theorem vX0_readEvent {K : mt_C} {fu : Nat} {σ : mt_St} {a1 : Nat} {r : Int32} {σf : mt_St} (ha1 : mt_kd a1 = 4) (hQ : mt_R K (some .boolean) (some (.int r)) σf) : mt_V K cX0_readEvent RX0 3 4 σ 0 [(0, .ref (mt_adr (kG K) 44)), (1, .ref (mt_adr (kG K) a1))] [] (fX0_readEvent fu σ a1 = some (r, σf)) := by
  unfold fX0_readEvent
  refine mv_aload_n 0 dX0_readEvent_0 rfl rfl ?_
  refine mv_cVwv (As := []) (st := []) cal_X0_advance ins_X0_advance ml_X0_31 rfl (by decide) rfl rfl (by decide) rfl (Nat.le_of_ble_eq_true rfl) dX0_readEvent_1 (fun r s h => co_X0_advance h) (fun r1 s2 => ?_)
  refine mv_aload_n 0 dX0_readEvent_4 rfl rfl ?_
  refine mg_X0_5 fl_X0_28 dX0_readEvent_5 ?_
  refine mv_istore_n (lv' := [(0, .ref (mt_adr (kG K) 44)), (1, .ref (mt_adr (kG K) a1)), (2, .int (s2 44 5))]) [1, 2, 0] dX0_readEvent_8 rfl (by decide) rfl ?_
  refine mv_aload_n 0 dX0_readEvent_9 rfl rfl ?_
  refine mv_iconst (v := 5) dX0_readEvent_10 ic_5 ?_
  refine mv_cVwi (As := [.int (5 : Int32)]) (st := []) cal_X0_passNumber ins_X0_passNumber ml_X0_59 rfl (by decide) rfl rfl (by decide) rfl (Nat.le_of_ble_eq_true rfl) dX0_readEvent_11 (fun r s h => co_X0_passNumber h) (fun r3 s4 => ?_)
  refine mv_if_ne 19 dX0_readEvent_14 (by decide) ?_ ?_
  · refine mv_iload_n 2 dX0_readEvent_19 rfl rfl ?_
    refine mv_iconst (v := 5) dX0_readEvent_20 ic_5 ?_
    refine mv_cSri (As := [.int (s2 44 5), .int (5 : Int32)]) (st := []) cal_X5_isWithin sta_X5_isWithin ml_X0_72 rfl (by decide) rfl (Nat.le_of_ble_eq_true rfl) dX0_readEvent_21 (fun r h => co_X5_isWithin h) (fun r5 => ?_)
    refine mv_if_eq 37 dX0_readEvent_24 (by decide) ?_ ?_
    · refine mv_sub (lv' := [(0, .ref (mt_adr (kG K) 44))]) [0] rfl ?_
      exact vX0_readEvent_37 ha1 hQ s4
    · refine mv_aload_n 1 dX0_readEvent_27 rfl rfl ?_
      refine mg_X4_2 ha1 fl_X0_76 dX0_readEvent_28 ?_
      refine mv_iload_n 2 dX0_readEvent_31 rfl rfl ?_
      refine mv_aload_n 0 dX0_readEvent_32 rfl rfl ?_
      refine mg_X0_5 fl_X0_28 dX0_readEvent_33 ?_
      refine mv_iast 6 (kd_w1 ha1) (ln_w1 ha1) dX0_readEvent_36 (fun s6 => ?_)
      refine mv_sub (lv' := [(0, .ref (mt_adr (kG K) 44))]) [0] rfl ?_
      exact vX0_readEvent_37 ha1 hQ s6
  · refine mv_iconst (v := 0) dX0_readEvent_17 ic_0 ?_
    exact mv_zret0 hQ (by decide) dX0_readEvent_18
theorem co_X0_readEvent {l : Launch} {G : mt_G} {fu : Nat} {σ : mt_St} {a1 : Nat} {r : Int32} {σf : mt_St} (ha1 : mt_kd a1 = 4) (h : fX0_readEvent fu σ a1 = some (r, σf)) : mt_Con l G yX0_readEvent cX0_readEvent 3 (some .boolean) 4 [.ref (mt_adr G 44), .ref (mt_adr G a1)] σ (some (.int r)) σf :=
  mt_con (by decide) (Nat.le_of_ble_eq_true rfl) (fun K hl hG hQ => by subst hl; subst hG; exact fun _ => vX0_readEvent ha1 hQ h)
theorem dX0_readItem_0 : decode cX0_readItem 0 = .ok (.aload_n 0, 1) := by decide +kernel
theorem dX0_readItem_1 : decode cX0_readItem 1 = .ok (.invokevirtual 38, 3) := by decide +kernel
theorem dX0_readItem_4 : decode cX0_readItem 4 = .ok (.istore_n 2, 1) := by decide +kernel
theorem dX0_readItem_5 : decode cX0_readItem 5 = .ok (.iload_n 2, 1) := by decide +kernel
theorem dX0_readItem_6 : decode cX0_readItem 6 = .ok (.ifCond .lt 26, 3) := by decide +kernel
theorem dX0_readItem_9 : decode cX0_readItem 9 = .ok (.aload_n 0, 1) := by decide +kernel
theorem dX0_readItem_10 : decode cX0_readItem 10 = .ok (.aload_n 1, 1) := by decide +kernel
theorem dX0_readItem_11 : decode cX0_readItem 11 = .ok (.iload_n 2, 1) := by decide +kernel
theorem dX0_readItem_12 : decode cX0_readItem 12 = .ok (.invokevirtual 42, 3) := by decide +kernel
theorem dX0_readItem_15 : decode cX0_readItem 15 = .ok (.ifCond .eq 15, 3) := by decide +kernel
theorem dX0_readItem_18 : decode cX0_readItem 18 = .ok (.aload_n 0, 1) := by decide +kernel
theorem dX0_readItem_19 : decode cX0_readItem 19 = .ok (.aload_n 1, 1) := by decide +kernel
theorem dX0_readItem_20 : decode cX0_readItem 20 = .ok (.invokevirtual 46, 3) := by decide +kernel
theorem dX0_readItem_23 : decode cX0_readItem 23 = .ok (.ifCond .eq 7, 3) := by decide +kernel
theorem dX0_readItem_26 : decode cX0_readItem 26 = .ok (.iconst 1, 1) := by decide +kernel
theorem dX0_readItem_27 : decode cX0_readItem 27 = .ok (.goto 4, 3) := by decide +kernel
theorem dX0_readItem_30 : decode cX0_readItem 30 = .ok (.iconst 0, 1) := by decide +kernel
theorem dX0_readItem_31 : decode cX0_readItem 31 = .ok (.ireturn, 1) := by decide +kernel
theorem dX0_readItem_32 : decode cX0_readItem 32 = .ok (.aload_n 0, 1) := by decide +kernel
theorem dX0_readItem_33 : decode cX0_readItem 33 = .ok (.ldc 49, 2) := by decide +kernel
theorem dX0_readItem_35 : decode cX0_readItem 35 = .ok (.invokevirtual 51, 3) := by decide +kernel
theorem dX0_readItem_38 : decode cX0_readItem 38 = .ok (.ifCond .eq 23, 3) := by decide +kernel
theorem dX0_readItem_41 : decode cX0_readItem 41 = .ok (.aload_n 0, 1) := by decide +kernel
theorem dX0_readItem_42 : decode cX0_readItem 42 = .ok (.invokevirtual 31, 3) := by decide +kernel
theorem dX0_readItem_45 : decode cX0_readItem 45 = .ok (.aload_n 1, 1) := by decide +kernel
theorem dX0_readItem_46 : decode cX0_readItem 46 = .ok (.aload_n 0, 1) := by decide +kernel
theorem dX0_readItem_47 : decode cX0_readItem 47 = .ok (.getfield 28, 3) := by decide +kernel
theorem dX0_readItem_50 : decode cX0_readItem 50 = .ok (.putfield 55, 3) := by decide +kernel
theorem dX0_readItem_53 : decode cX0_readItem 53 = .ok (.aload_n 0, 1) := by decide +kernel
theorem dX0_readItem_54 : decode cX0_readItem 54 = .ok (.sipush 4095, 3) := by decide +kernel
theorem dX0_readItem_57 : decode cX0_readItem 57 = .ok (.invokevirtual 59, 3) := by decide +kernel
theorem dX0_readItem_60 : decode cX0_readItem 60 = .ok (.ireturn, 1) := by decide +kernel
theorem dX0_readItem_61 : decode cX0_readItem 61 = .ok (.aload_n 0, 1) := by decide +kernel
theorem dX0_readItem_62 : decode cX0_readItem 62 = .ok (.ldc 63, 2) := by decide +kernel
theorem dX0_readItem_64 : decode cX0_readItem 64 = .ok (.invokevirtual 51, 3) := by decide +kernel
theorem dX0_readItem_67 : decode cX0_readItem 67 = .ok (.ifCond .eq 23, 3) := by decide +kernel
theorem dX0_readItem_70 : decode cX0_readItem 70 = .ok (.aload_n 0, 1) := by decide +kernel
theorem dX0_readItem_71 : decode cX0_readItem 71 = .ok (.invokevirtual 31, 3) := by decide +kernel
theorem dX0_readItem_74 : decode cX0_readItem 74 = .ok (.aload_n 1, 1) := by decide +kernel
theorem dX0_readItem_75 : decode cX0_readItem 75 = .ok (.aload_n 0, 1) := by decide +kernel
theorem dX0_readItem_76 : decode cX0_readItem 76 = .ok (.getfield 28, 3) := by decide +kernel
theorem dX0_readItem_79 : decode cX0_readItem 79 = .ok (.putfield 65, 3) := by decide +kernel
theorem dX0_readItem_82 : decode cX0_readItem 82 = .ok (.aload_n 0, 1) := by decide +kernel
theorem dX0_readItem_83 : decode cX0_readItem 83 = .ok (.sipush 4095, 3) := by decide +kernel
theorem dX0_readItem_86 : decode cX0_readItem 86 = .ok (.invokevirtual 59, 3) := by decide +kernel
theorem dX0_readItem_89 : decode cX0_readItem 89 = .ok (.ireturn, 1) := by decide +kernel
theorem dX0_readItem_90 : decode cX0_readItem 90 = .ok (.aload_n 0, 1) := by decide +kernel
theorem dX0_readItem_91 : decode cX0_readItem 91 = .ok (.ldc 67, 2) := by decide +kernel
theorem dX0_readItem_93 : decode cX0_readItem 93 = .ok (.invokevirtual 51, 3) := by decide +kernel
theorem dX0_readItem_96 : decode cX0_readItem 96 = .ok (.ifCond .eq 15, 3) := by decide +kernel
theorem dX0_readItem_99 : decode cX0_readItem 99 = .ok (.aload_n 0, 1) := by decide +kernel
theorem dX0_readItem_100 : decode cX0_readItem 100 = .ok (.aload_n 1, 1) := by decide +kernel
theorem dX0_readItem_101 : decode cX0_readItem 101 = .ok (.invokevirtual 69, 3) := by decide +kernel
theorem dX0_readItem_104 : decode cX0_readItem 104 = .ok (.ifCond .eq 7, 3) := by decide +kernel
theorem dX0_readItem_107 : decode cX0_readItem 107 = .ok (.iconst 1, 1) := by decide +kernel
theorem dX0_readItem_108 : decode cX0_readItem 108 = .ok (.goto 4, 3) := by decide +kernel
theorem dX0_readItem_111 : decode cX0_readItem 111 = .ok (.iconst 0, 1) := by decide +kernel
theorem dX0_readItem_112 : decode cX0_readItem 112 = .ok (.ireturn, 1) := by decide +kernel
def bX0_readItem_112 (fu : Nat) (a1 : Nat) (σ : mt_St) (y0 : Int32) : Option (Int32 × mt_St) :=
  mt_chk (mt_b01 y0) (some (y0, σ))
set_option maxHeartbeats 4000000 in
set_option maxRecDepth 20000 in
theorem vX0_readItem_112 {K : mt_C} {fu : Nat} {a1 : Nat} {r : Int32} {σf : mt_St} (ha1 : mt_kd a1 = 4) (hQ : mt_R K (some .boolean) (some (.int r)) σf) : ∀ (σ : mt_St) (y0 : Int32), mt_V K cX0_readItem RX0 3 6 σ 112 [] [.int y0] (bX0_readItem_112 fu a1 σ y0 = some (r, σf)) := by
  intro σ y0
  unfold bX0_readItem_112
  exact mv_zret hQ dX0_readItem_112
def bX0_readItem_111 (fu : Nat) (a1 : Nat) (σ : mt_St) : Option (Int32 × mt_St) :=
  bX0_readItem_112 fu a1 σ (0 : Int32)
set_option maxHeartbeats 4000000 in
set_option maxRecDepth 20000 in
theorem vX0_readItem_111 {K : mt_C} {fu : Nat} {a1 : Nat} {r : Int32} {σf : mt_St} (ha1 : mt_kd a1 = 4) (hQ : mt_R K (some .boolean) (some (.int r)) σf) : ∀ (σ : mt_St), mt_V K cX0_readItem RX0 3 6 σ 111 [] [] (bX0_readItem_111 fu a1 σ = some (r, σf)) := by
  intro σ
  unfold bX0_readItem_111
  refine mv_iconst (v := 0) dX0_readItem_111 ic_0 ?_
  exact vX0_readItem_112 ha1 hQ σ (0 : Int32)
def bX0_readItem_31 (fu : Nat) (a1 : Nat) (σ : mt_St) (y0 : Int32) : Option (Int32 × mt_St) :=
  mt_chk (mt_b01 y0) (some (y0, σ))
set_option maxHeartbeats 4000000 in
set_option maxRecDepth 20000 in
theorem vX0_readItem_31 {K : mt_C} {fu : Nat} {a1 : Nat} {r : Int32} {σf : mt_St} (ha1 : mt_kd a1 = 4) (hQ : mt_R K (some .boolean) (some (.int r)) σf) : ∀ (σ : mt_St) (y0 : Int32), mt_V K cX0_readItem RX0 3 6 σ 31 [] [.int y0] (bX0_readItem_31 fu a1 σ y0 = some (r, σf)) := by
  intro σ y0
  unfold bX0_readItem_31
  exact mv_zret hQ dX0_readItem_31
def bX0_readItem_30 (fu : Nat) (a1 : Nat) (σ : mt_St) : Option (Int32 × mt_St) :=
  bX0_readItem_31 fu a1 σ (0 : Int32)
set_option maxHeartbeats 4000000 in
set_option maxRecDepth 20000 in
theorem vX0_readItem_30 {K : mt_C} {fu : Nat} {a1 : Nat} {r : Int32} {σf : mt_St} (ha1 : mt_kd a1 = 4) (hQ : mt_R K (some .boolean) (some (.int r)) σf) : ∀ (σ : mt_St), mt_V K cX0_readItem RX0 3 6 σ 30 [] [] (bX0_readItem_30 fu a1 σ = some (r, σf)) := by
  intro σ
  unfold bX0_readItem_30
  refine mv_iconst (v := 0) dX0_readItem_30 ic_0 ?_
  exact vX0_readItem_31 ha1 hQ σ (0 : Int32)
def fX0_readItem (fu : Nat) (σ : mt_St) (a1 : Nat) : Option (Int32 × mt_St) :=
  mt_ask (fX0_kindTold fu σ) fun r1 =>
  if r1 < 0 then
    mt_ask (fX0_isWord fu σ 10) fun r2 =>
    if r2 = 0 then
      mt_ask (fX0_isWord fu σ 11) fun r3 =>
      if r3 = 0 then
        mt_ask (fX0_isWord fu σ 12) fun r4 =>
        if r4 = 0 then
          bX0_readItem_111 fu a1 σ
        else
          mt_call (fX0_readEvent fu σ a1) fun r5 s6 =>
          if r5 = 0 then
            bX0_readItem_111 fu a1 s6
          else
            bX0_readItem_112 fu a1 s6 (1 : Int32)
      else
        mt_call (fX0_advance fu σ) fun _ s8 =>
        mt_bnd (mt_up s8 a1 1 (s8 44 5)) fun s9 =>
        mt_call (fX0_passNumber fu s9 (4095 : Int32)) fun r10 s11 =>
        mt_chk (mt_b01 r10) (some (r10, s11))
    else
      mt_call (fX0_advance fu σ) fun _ s13 =>
      mt_bnd (mt_up s13 a1 0 (s13 44 5)) fun s14 =>
      mt_call (fX0_passNumber fu s14 (4095 : Int32)) fun r15 s16 =>
      mt_chk (mt_b01 r15) (some (r15, s16))
  else
    mt_call (fX0_readPowers fu σ a1 r1) fun r17 s18 =>
    if r17 = 0 then
      bX0_readItem_30 fu a1 s18
    else
      mt_call (fX0_readTerms fu s18 a1) fun r19 s20 =>
      if r19 = 0 then
        bX0_readItem_30 fu a1 s20
      else
        bX0_readItem_31 fu a1 s20 (1 : Int32)
set_option maxHeartbeats 4000000 in
set_option maxRecDepth 20000 in
theorem vX0_readItem {K : mt_C} {fu : Nat} {σ : mt_St} {a1 : Nat} {r : Int32} {σf : mt_St} (ha1 : mt_kd a1 = 4) (hQ : mt_R K (some .boolean) (some (.int r)) σf) : mt_V K cX0_readItem RX0 3 6 σ 0 [(0, .ref (mt_adr (kG K) 44)), (1, .ref (mt_adr (kG K) a1))] [] (fX0_readItem fu σ a1 = some (r, σf)) := by
  unfold fX0_readItem
  refine mv_aload_n 0 dX0_readItem_0 rfl rfl ?_
  refine mv_cVri (As := []) (st := []) cal_X0_kindTold ins_X0_kindTold ml_X0_38 rfl (by decide) rfl rfl (by decide) rfl (Nat.le_of_ble_eq_true rfl) dX0_readItem_1 (fun r h => co_X0_kindTold h) (fun r1 => ?_)
  refine mv_istore_n (lv' := [(0, .ref (mt_adr (kG K) 44)), (1, .ref (mt_adr (kG K) a1)), (2, .int r1)]) [1, 2, 0] dX0_readItem_4 rfl (by decide) rfl ?_
  refine mv_iload_n 2 dX0_readItem_5 rfl rfl ?_
  refine mv_if_lt 32 dX0_readItem_6 (by decide) ?_ ?_
  · refine mv_aload_n 0 dX0_readItem_32 rfl rfl ?_
    refine mv_ldcS (List.mem_of_getElem? (i := 10) rfl) dX0_readItem_33 ?_
    refine mv_cVri (As := [.ref (mt_aK (kG K) 10)]) (st := []) cal_X0_isWord ins_X0_isWord ml_X0_51 rfl (by decide) rfl rfl (by decide) rfl (Nat.le_of_ble_eq_true rfl) dX0_readItem_35 (fun r h => co_X0_isWord (by decide) h) (fun r2 => ?_)
    refine mv_if_eq 61 dX0_readItem_38 (by decide) ?_ ?_
    · refine mv_aload_n 0 dX0_readItem_61 rfl rfl ?_
      refine mv_ldcS (List.mem_of_getElem? (i := 11) rfl) dX0_readItem_62 ?_
      refine mv_cVri (As := [.ref (mt_aK (kG K) 11)]) (st := []) cal_X0_isWord ins_X0_isWord ml_X0_51 rfl (by decide) rfl rfl (by decide) rfl (Nat.le_of_ble_eq_true rfl) dX0_readItem_64 (fun r h => co_X0_isWord (by decide) h) (fun r3 => ?_)
      refine mv_if_eq 90 dX0_readItem_67 (by decide) ?_ ?_
      · refine mv_aload_n 0 dX0_readItem_90 rfl rfl ?_
        refine mv_ldcS (List.mem_of_getElem? (i := 12) rfl) dX0_readItem_91 ?_
        refine mv_cVri (As := [.ref (mt_aK (kG K) 12)]) (st := []) cal_X0_isWord ins_X0_isWord ml_X0_51 rfl (by decide) rfl rfl (by decide) rfl (Nat.le_of_ble_eq_true rfl) dX0_readItem_93 (fun r h => co_X0_isWord (by decide) h) (fun r4 => ?_)
        refine mv_if_eq 111 dX0_readItem_96 (by decide) ?_ ?_
        · refine mv_sub (lv' := []) [] rfl ?_
          exact vX0_readItem_111 ha1 hQ σ
        · refine mv_aload_n 0 dX0_readItem_99 rfl rfl ?_
          refine mv_aload_n 1 dX0_readItem_100 rfl rfl ?_
          refine mv_cVwi (As := [.ref (mt_adr (kG K) a1)]) (st := []) cal_X0_readEvent ins_X0_readEvent ml_X0_69 rfl (by decide) rfl rfl (by decide) rfl (Nat.le_of_ble_eq_true rfl) dX0_readItem_101 (fun r s h => co_X0_readEvent ha1 h) (fun r5 s6 => ?_)
          refine mv_if_eq 111 dX0_readItem_104 (by decide) ?_ ?_
          · refine mv_sub (lv' := []) [] rfl ?_
            exact vX0_readItem_111 ha1 hQ s6
          · refine mv_iconst (v := 1) dX0_readItem_107 ic_1 ?_
            refine mv_goto 112 dX0_readItem_108 (by decide) ?_
            refine mv_sub (lv' := []) [] rfl ?_
            exact vX0_readItem_112 ha1 hQ s6 (1 : Int32)
      · refine mv_aload_n 0 dX0_readItem_70 rfl rfl ?_
        refine mv_cVwv (As := []) (st := []) cal_X0_advance ins_X0_advance ml_X0_31 rfl (by decide) rfl rfl (by decide) rfl (Nat.le_of_ble_eq_true rfl) dX0_readItem_71 (fun r s h => co_X0_advance h) (fun r7 s8 => ?_)
        refine mv_aload_n 1 dX0_readItem_74 rfl rfl ?_
        refine mv_aload_n 0 dX0_readItem_75 rfl rfl ?_
        refine mg_X0_5 fl_X0_28 dX0_readItem_76 ?_
        refine mp_X4_1 ha1 fl_X0_65 dX0_readItem_79 (fun s9 => ?_)
        refine mv_aload_n 0 dX0_readItem_82 rfl rfl ?_
        refine mv_sipush (v := 4095) dX0_readItem_83 sp_4095 ?_
        refine mv_cVwi (As := [.int (4095 : Int32)]) (st := []) cal_X0_passNumber ins_X0_passNumber ml_X0_59 rfl (by decide) rfl rfl (by decide) rfl (Nat.le_of_ble_eq_true rfl) dX0_readItem_86 (fun r s h => co_X0_passNumber h) (fun r10 s11 => ?_)
        exact mv_zret hQ dX0_readItem_89
    · refine mv_aload_n 0 dX0_readItem_41 rfl rfl ?_
      refine mv_cVwv (As := []) (st := []) cal_X0_advance ins_X0_advance ml_X0_31 rfl (by decide) rfl rfl (by decide) rfl (Nat.le_of_ble_eq_true rfl) dX0_readItem_42 (fun r s h => co_X0_advance h) (fun r12 s13 => ?_)
      refine mv_aload_n 1 dX0_readItem_45 rfl rfl ?_
      refine mv_aload_n 0 dX0_readItem_46 rfl rfl ?_
      refine mg_X0_5 fl_X0_28 dX0_readItem_47 ?_
      refine mp_X4_0 ha1 fl_X0_55 dX0_readItem_50 (fun s14 => ?_)
      refine mv_aload_n 0 dX0_readItem_53 rfl rfl ?_
      refine mv_sipush (v := 4095) dX0_readItem_54 sp_4095 ?_
      refine mv_cVwi (As := [.int (4095 : Int32)]) (st := []) cal_X0_passNumber ins_X0_passNumber ml_X0_59 rfl (by decide) rfl rfl (by decide) rfl (Nat.le_of_ble_eq_true rfl) dX0_readItem_57 (fun r s h => co_X0_passNumber h) (fun r15 s16 => ?_)
      exact mv_zret hQ dX0_readItem_60
  · refine mv_aload_n 0 dX0_readItem_9 rfl rfl ?_
    refine mv_aload_n 1 dX0_readItem_10 rfl rfl ?_
    refine mv_iload_n 2 dX0_readItem_11 rfl rfl ?_
    refine mv_cVwi (As := [.ref (mt_adr (kG K) a1), .int r1]) (st := []) cal_X0_readPowers ins_X0_readPowers ml_X0_42 rfl (by decide) rfl rfl (by decide) rfl (Nat.le_of_ble_eq_true rfl) dX0_readItem_12 (fun r s h => co_X0_readPowers ha1 h) (fun r17 s18 => ?_)
    refine mv_if_eq 30 dX0_readItem_15 (by decide) ?_ ?_
    · refine mv_sub (lv' := []) [] rfl ?_
      exact vX0_readItem_30 ha1 hQ s18
    · refine mv_aload_n 0 dX0_readItem_18 rfl rfl ?_
      refine mv_aload_n 1 dX0_readItem_19 rfl rfl ?_
      refine mv_cVwi (As := [.ref (mt_adr (kG K) a1)]) (st := []) cal_X0_readTerms ins_X0_readTerms ml_X0_46 rfl (by decide) rfl rfl (by decide) rfl (Nat.le_of_ble_eq_true rfl) dX0_readItem_20 (fun r s h => co_X0_readTerms ha1 h) (fun r19 s20 => ?_)
      refine mv_if_eq 30 dX0_readItem_23 (by decide) ?_ ?_
      · refine mv_sub (lv' := []) [] rfl ?_
        exact vX0_readItem_30 ha1 hQ s20
      · refine mv_iconst (v := 1) dX0_readItem_26 ic_1 ?_
        refine mv_goto 31 dX0_readItem_27 (by decide) ?_
        refine mv_sub (lv' := []) [] rfl ?_
        exact vX0_readItem_31 ha1 hQ s20 (1 : Int32)
theorem co_X0_readItem {l : Launch} {G : mt_G} {fu : Nat} {σ : mt_St} {a1 : Nat} {r : Int32} {σf : mt_St} (ha1 : mt_kd a1 = 4) (h : fX0_readItem fu σ a1 = some (r, σf)) : mt_Con l G yX0_readItem cX0_readItem 3 (some .boolean) 6 [.ref (mt_adr G 44), .ref (mt_adr G a1)] σ (some (.int r)) σf :=
  mt_con (by decide) (Nat.le_of_ble_eq_true rfl) (fun K hl hG hQ => by subst hl; subst hG; exact fun _ => vX0_readItem ha1 hQ h)
theorem dX0_readInto_0 : decode cX0_readInto 0 = .ok (.aload_n 0, 1) := by decide +kernel
theorem dX0_readInto_1 : decode cX0_readInto 1 = .ok (.iconst 0, 1) := by decide +kernel
theorem dX0_readInto_2 : decode cX0_readInto 2 = .ok (.putfield 25, 3) := by decide +kernel
theorem dX0_readInto_5 : decode cX0_readInto 5 = .ok (.aload_n 0, 1) := by decide +kernel
theorem dX0_readInto_6 : decode cX0_readInto 6 = .ok (.invokevirtual 31, 3) := by decide +kernel
theorem dX0_readInto_9 : decode cX0_readInto 9 = .ok (.iconst 1, 1) := by decide +kernel
theorem dX0_readInto_10 : decode cX0_readInto 10 = .ok (.istore_n 2, 1) := by decide +kernel
theorem dX0_readInto_11 : decode cX0_readInto 11 = .ok (.iload_n 2, 1) := by decide +kernel
theorem dX0_readInto_12 : decode cX0_readInto 12 = .ok (.bipush 120, 2) := by decide +kernel
theorem dX0_readInto_14 : decode cX0_readInto 14 = .ok (.if_icmp .gt 44, 3) := by decide +kernel
theorem dX0_readInto_17 : decode cX0_readInto 17 = .ok (.aload_n 0, 1) := by decide +kernel
theorem dX0_readInto_18 : decode cX0_readInto 18 = .ok (.aload_n 1, 1) := by decide +kernel
theorem dX0_readInto_19 : decode cX0_readInto 19 = .ok (.invokevirtual 34, 3) := by decide +kernel
theorem dX0_readInto_22 : decode cX0_readInto 22 = .ok (.ifCond .ne 6, 3) := by decide +kernel
theorem dX0_readInto_25 : decode cX0_readInto 25 = .ok (.goto 33, 3) := by decide +kernel
theorem dX0_readInto_28 : decode cX0_readInto 28 = .ok (.aload_n 0, 1) := by decide +kernel
theorem dX0_readInto_29 : decode cX0_readInto 29 = .ok (.getfield 19, 3) := by decide +kernel
theorem dX0_readInto_32 : decode cX0_readInto 32 = .ok (.ifCond .ne 5, 3) := by decide +kernel
theorem dX0_readInto_35 : decode cX0_readInto 35 = .ok (.iload_n 2, 1) := by decide +kernel
theorem dX0_readInto_36 : decode cX0_readInto 36 = .ok (.ireturn, 1) := by decide +kernel
theorem dX0_readInto_37 : decode cX0_readInto 37 = .ok (.aload_n 0, 1) := by decide +kernel
theorem dX0_readInto_38 : decode cX0_readInto 38 = .ok (.getfield 19, 3) := by decide +kernel
theorem dX0_readInto_41 : decode cX0_readInto 41 = .ok (.iconst 3, 1) := by decide +kernel
theorem dX0_readInto_42 : decode cX0_readInto 42 = .ok (.if_icmp .eq 6, 3) := by decide +kernel
theorem dX0_readInto_45 : decode cX0_readInto 45 = .ok (.goto 13, 3) := by decide +kernel
theorem dX0_readInto_48 : decode cX0_readInto 48 = .ok (.aload_n 0, 1) := by decide +kernel
theorem dX0_readInto_49 : decode cX0_readInto 49 = .ok (.invokevirtual 31, 3) := by decide +kernel
theorem dX0_readInto_52 : decode cX0_readInto 52 = .ok (.iinc 2 1, 3) := by decide +kernel
theorem dX0_readInto_55 : decode cX0_readInto 55 = .ok (.goto (-44), 3) := by decide +kernel
theorem dX0_readInto_58 : decode cX0_readInto 58 = .ok (.iconst (-1), 1) := by decide +kernel
theorem dX0_readInto_59 : decode cX0_readInto 59 = .ok (.aload_n 0, 1) := by decide +kernel
theorem dX0_readInto_60 : decode cX0_readInto 60 = .ok (.getfield 22, 3) := by decide +kernel
theorem dX0_readInto_63 : decode cX0_readInto 63 = .ok (.isub, 1) := by decide +kernel
theorem dX0_readInto_64 : decode cX0_readInto 64 = .ok (.ireturn, 1) := by decide +kernel
def bX0_readInto_58 (fu : Nat) (a1 : Nat) (σ : mt_St) : Option (Int32 × mt_St) :=
  some (((-1 : Int32) - (σ 44 3)), σ)
set_option maxHeartbeats 4000000 in
set_option maxRecDepth 20000 in
theorem vX0_readInto_58 {K : mt_C} {fu : Nat} {a1 : Nat} {r : Int32} {σf : mt_St} (ha1 : mt_kd a1 = 4) (hQ : mt_R K (some .int) (some (.int r)) σf) : ∀ (σ : mt_St), mt_V K cX0_readInto RX0 3 7 σ 58 [(0, .ref (mt_adr (kG K) 44))] [] (bX0_readInto_58 fu a1 σ = some (r, σf)) := by
  intro σ
  unfold bX0_readInto_58
  refine mv_iconst (v := -1) dX0_readInto_58 ic_m1 ?_
  refine mv_aload_n 0 dX0_readInto_59 rfl rfl ?_
  refine mg_X0_3 fl_X0_22 dX0_readInto_60 ?_
  refine mv_isub dX0_readInto_63 ?_
  exact mv_iret hQ dX0_readInto_64
def bX0_readInto_11 (fu : Nat) (a1 : Nat) : Nat → mt_St → Int32 → Option (Int32 × mt_St)
  | 0, _, _ => none
  | n + 1, σ, x2 =>
    if (120 : Int32) < x2 then
      bX0_readInto_58 fu a1 σ
    else
      mt_call (fX0_readItem fu σ a1) fun r1 s2 =>
      if r1 = 0 then
        bX0_readInto_58 fu a1 s2
      else
        if (s2 44 2) = 0 then
          some (x2, s2)
        else
          if (s2 44 2) = (3 : Int32) then
            mt_call (fX0_advance fu s2) fun _ s4 =>
            bX0_readInto_11 fu a1 n s4 (x2 + 1)
          else
            bX0_readInto_58 fu a1 s2
set_option maxHeartbeats 4000000 in
set_option maxRecDepth 20000 in
theorem vX0_readInto_11 {K : mt_C} {fu : Nat} {a1 : Nat} {r : Int32} {σf : mt_St} (ha1 : mt_kd a1 = 4) (hQ : mt_R K (some .int) (some (.int r)) σf) : ∀ (n : Nat) (σ : mt_St) (x2 : Int32), mt_V K cX0_readInto RX0 3 7 σ 11 [(0, .ref (mt_adr (kG K) 44)), (1, .ref (mt_adr (kG K) a1)), (2, .int x2)] [] (bX0_readInto_11 fu a1 n σ x2 = some (r, σf)) := by
  intro n
  induction n with
  | zero => intro σ x2; intro hP; unfold bX0_readInto_11 at hP; cases hP
  | succ n ih =>
    intro σ x2
    unfold bX0_readInto_11
    refine mv_iload_n 2 dX0_readInto_11 rfl rfl ?_
    refine mv_bipush (v := 120) dX0_readInto_12 bp_120 ?_
    refine mv_icmp_gt 58 dX0_readInto_14 (by decide) ?_ ?_
    · refine mv_sub (lv' := [(0, .ref (mt_adr (kG K) 44))]) [0] rfl ?_
      exact vX0_readInto_58 ha1 hQ σ
    · refine mv_aload_n 0 dX0_readInto_17 rfl rfl ?_
      refine mv_aload_n 1 dX0_readInto_18 rfl rfl ?_
      refine mv_cVwi (As := [.ref (mt_adr (kG K) a1)]) (st := []) cal_X0_readItem ins_X0_readItem ml_X0_34 rfl (by decide) rfl rfl (by decide) rfl (Nat.le_of_ble_eq_true rfl) dX0_readInto_19 (fun r s h => co_X0_readItem ha1 h) (fun r1 s2 => ?_)
      refine mv_if_ne 28 dX0_readInto_22 (by decide) ?_ ?_
      · refine mv_aload_n 0 dX0_readInto_28 rfl rfl ?_
        refine mg_X0_2 fl_X0_19 dX0_readInto_29 ?_
        refine mv_if_ne 37 dX0_readInto_32 (by decide) ?_ ?_
        · refine mv_aload_n 0 dX0_readInto_37 rfl rfl ?_
          refine mg_X0_2 fl_X0_19 dX0_readInto_38 ?_
          refine mv_iconst (v := 3) dX0_readInto_41 ic_3 ?_
          refine mv_icmp_eq 48 dX0_readInto_42 (by decide) ?_ ?_
          · refine mv_aload_n 0 dX0_readInto_48 rfl rfl ?_
            refine mv_cVwv (As := []) (st := []) cal_X0_advance ins_X0_advance ml_X0_31 rfl (by decide) rfl rfl (by decide) rfl (Nat.le_of_ble_eq_true rfl) dX0_readInto_49 (fun r s h => co_X0_advance h) (fun r3 s4 => ?_)
            refine mv_iinc (k0 := 2) (v := x2 + 1) (lv' := [(0, .ref (mt_adr (kG K) 44)), (1, .ref (mt_adr (kG K) a1)), (2, .int (x2 + 1))]) [1, 2, 0] dX0_readInto_52 rfl (mt_inc ic_1) (by decide) rfl ?_
            refine mv_goto 11 dX0_readInto_55 (by decide) ?_
            exact ih s4 (x2 + 1)
          · refine mv_goto 58 dX0_readInto_45 (by decide) ?_
            refine mv_sub (lv' := [(0, .ref (mt_adr (kG K) 44))]) [0] rfl ?_
            exact vX0_readInto_58 ha1 hQ s2
        · refine mv_iload_n 2 dX0_readInto_35 rfl rfl ?_
          exact mv_iret hQ dX0_readInto_36
      · refine mv_goto 58 dX0_readInto_25 (by decide) ?_
        refine mv_sub (lv' := [(0, .ref (mt_adr (kG K) 44))]) [0] rfl ?_
        exact vX0_readInto_58 ha1 hQ s2
def fX0_readInto (fu : Nat) (σ : mt_St) (a1 : Nat) : Option (Int32 × mt_St) :=
  mt_bnd (mt_up σ 44 4 (0 : Int32)) fun s1 =>
  mt_call (fX0_advance fu s1) fun _ s3 =>
  bX0_readInto_11 fu a1 fu s3 (1 : Int32)
set_option maxHeartbeats 4000000 in
set_option maxRecDepth 20000 in
theorem vX0_readInto {K : mt_C} {fu : Nat} {σ : mt_St} {a1 : Nat} {r : Int32} {σf : mt_St} (ha1 : mt_kd a1 = 4) (hQ : mt_R K (some .int) (some (.int r)) σf) : mt_V K cX0_readInto RX0 3 7 σ 0 [(0, .ref (mt_adr (kG K) 44)), (1, .ref (mt_adr (kG K) a1))] [] (fX0_readInto fu σ a1 = some (r, σf)) := by
  unfold fX0_readInto
  refine mv_aload_n 0 dX0_readInto_0 rfl rfl ?_
  refine mv_iconst (v := 0) dX0_readInto_1 ic_0 ?_
  refine mp_X0_4 fl_X0_25 dX0_readInto_2 (fun s1 => ?_)
  refine mv_aload_n 0 dX0_readInto_5 rfl rfl ?_
  refine mv_cVwv (As := []) (st := []) cal_X0_advance ins_X0_advance ml_X0_31 rfl (by decide) rfl rfl (by decide) rfl (Nat.le_of_ble_eq_true rfl) dX0_readInto_6 (fun r s h => co_X0_advance h) (fun r2 s3 => ?_)
  refine mv_iconst (v := 1) dX0_readInto_9 ic_1 ?_
  refine mv_istore_n (lv' := [(0, .ref (mt_adr (kG K) 44)), (1, .ref (mt_adr (kG K) a1)), (2, .int (1 : Int32))]) [1, 2, 0] dX0_readInto_10 rfl (by decide) rfl ?_
  exact vX0_readInto_11 ha1 hQ fu s3 (1 : Int32)
theorem co_X0_readInto {l : Launch} {G : mt_G} {fu : Nat} {σ : mt_St} {a1 : Nat} {r : Int32} {σf : mt_St} (ha1 : mt_kd a1 = 4) (h : fX0_readInto fu σ a1 = some (r, σf)) : mt_Con l G yX0_readInto cX0_readInto 3 (some .int) 7 [.ref (mt_adr G 44), .ref (mt_adr G a1)] σ (some (.int r)) σf :=
  mt_con (by decide) (Nat.le_of_ble_eq_true rfl) (fun K hl hG hQ => by subst hl; subst hG; exact fun _ => vX0_readInto ha1 hQ h)
