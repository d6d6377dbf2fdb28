theorem dX1_isMissing_0 : decode cX1_isMissing 0 = .ok (.aload_n 0, 1) := by decide +kernel
theorem dX1_isMissing_1 : decode cX1_isMissing 1 = .ok (.getfield 9, 3) := by decide +kernel
theorem dX1_isMissing_4 : decode cX1_isMissing 4 = .ok (.ifCond .ne 7, 3) := by decide +kernel
theorem dX1_isMissing_7 : decode cX1_isMissing 7 = .ok (.iconst 1, 1) := by decide +kernel
theorem dX1_isMissing_8 : decode cX1_isMissing 8 = .ok (.goto 4, 3) := by decide +kernel
theorem dX1_isMissing_11 : decode cX1_isMissing 11 = .ok (.iconst 0, 1) := by decide +kernel
theorem dX1_isMissing_12 : decode cX1_isMissing 12 = .ok (.ireturn, 1) := by decide +kernel
def bX1_isMissing_12 (fu : Nat) (c : Nat) (σ : mt_St) (y0 : Int32) : Option Int32 :=
  mt_chk (mt_b01 y0) (some y0)
set_option maxHeartbeats 4000000 in
set_option maxRecDepth 20000 in
theorem vX1_isMissing_12 {K : mt_C} {fu : Nat} {c : Nat} {σ : mt_St} {r : Int32} (hc : mt_kd c = 1) (hQ : mt_R K (some .boolean) (some (.int r)) σ) : ∀ (y0 : Int32), mt_V K cX1_isMissing RX1 1 0 σ 12 [] [.int y0] (bX1_isMissing_12 fu c σ y0 = some r) := by
  intro y0
  unfold bX1_isMissing_12
  exact mv_zretr hQ dX1_isMissing_12
def fX1_isMissing (fu : Nat) (σ : mt_St) (c : Nat) : Option Int32 :=
  if (σ c 0) = 0 then
    bX1_isMissing_12 fu c σ (1 : Int32)
  else
    bX1_isMissing_12 fu c σ (0 : Int32)
set_option maxHeartbeats 4000000 in
set_option maxRecDepth 20000 in
theorem vX1_isMissing {K : mt_C} {fu : Nat} {σ : mt_St} {c : Nat} {r : Int32} (hc : mt_kd c = 1) (hQ : mt_R K (some .boolean) (some (.int r)) σ) : mt_V K cX1_isMissing RX1 1 0 σ 0 [(0, .ref (mt_adr (kG K) c))] [] (fX1_isMissing fu σ c = some r) := by
  unfold fX1_isMissing
  refine mv_aload_n 0 dX1_isMissing_0 rfl rfl ?_
  refine mg_X1_0 hc fl_X1_9 dX1_isMissing_1 ?_
  refine mv_if_ne 11 dX1_isMissing_4 (by decide) ?_ ?_
  · refine mv_iconst (v := 0) dX1_isMissing_11 ic_0 ?_
    refine mv_sub (lv' := []) [] rfl ?_
    exact vX1_isMissing_12 hc hQ (0 : Int32)
  · refine mv_iconst (v := 1) dX1_isMissing_7 ic_1 ?_
    refine mv_goto 12 dX1_isMissing_8 (by decide) ?_
    refine mv_sub (lv' := []) [] rfl ?_
    exact vX1_isMissing_12 hc hQ (1 : Int32)
theorem co_X1_isMissing {l : Launch} {G : mt_G} {fu : Nat} {σ : mt_St} {c : Nat} {r : Int32} (hc : mt_kd c = 1) (h : fX1_isMissing fu σ c = some r) : mt_Con l G yX1_isMissing cX1_isMissing 1 (some .boolean) 0 [.ref (mt_adr G c)] σ (some (.int r)) σ :=
  mt_con (by decide) (Nat.le_of_ble_eq_true rfl) (fun K hl hG hQ => by subst hl; subst hG; exact fun _ => vX1_isMissing hc hQ h)
theorem dX1_begin_0 : decode cX1_begin 0 = .ok (.aload_n 0, 1) := by decide +kernel
theorem dX1_begin_1 : decode cX1_begin 1 = .ok (.iload_n 1, 1) := by decide +kernel
theorem dX1_begin_2 : decode cX1_begin 2 = .ok (.putfield 9, 3) := by decide +kernel
theorem dX1_begin_5 : decode cX1_begin 5 = .ok (.aload_n 0, 1) := by decide +kernel
theorem dX1_begin_6 : decode cX1_begin 6 = .ok (.iload_n 1, 1) := by decide +kernel
theorem dX1_begin_7 : decode cX1_begin 7 = .ok (.ifCond .ne 7, 3) := by decide +kernel
theorem dX1_begin_10 : decode cX1_begin 10 = .ok (.iconst 0, 1) := by decide +kernel
theorem dX1_begin_11 : decode cX1_begin 11 = .ok (.goto 9, 3) := by decide +kernel
theorem dX1_begin_14 : decode cX1_begin 14 = .ok (.iload_n 2, 1) := by decide +kernel
theorem dX1_begin_15 : decode cX1_begin 15 = .ok (.bipush 40, 2) := by decide +kernel
theorem dX1_begin_17 : decode cX1_begin 17 = .ok (.invokestatic 22, 3) := by decide +kernel
theorem dX1_begin_20 : decode cX1_begin 20 = .ok (.putfield 15, 3) := by decide +kernel
theorem dX1_begin_23 : decode cX1_begin 23 = .ok (.iconst 0, 1) := by decide +kernel
theorem dX1_begin_24 : decode cX1_begin 24 = .ok (.istore_n 3, 1) := by decide +kernel
theorem dX1_begin_25 : decode cX1_begin 25 = .ok (.iload_n 3, 1) := by decide +kernel
theorem dX1_begin_26 : decode cX1_begin 26 = .ok (.bipush 40, 2) := by decide +kernel
theorem dX1_begin_28 : decode cX1_begin 28 = .ok (.if_icmp .ge 16, 3) := by decide +kernel
theorem dX1_begin_31 : decode cX1_begin 31 = .ok (.aload_n 0, 1) := by decide +kernel
theorem dX1_begin_32 : decode cX1_begin 32 = .ok (.getfield 18, 3) := by decide +kernel
theorem dX1_begin_35 : decode cX1_begin 35 = .ok (.iload_n 3, 1) := by decide +kernel
theorem dX1_begin_36 : decode cX1_begin 36 = .ok (.iconst 0, 1) := by decide +kernel
theorem dX1_begin_37 : decode cX1_begin 37 = .ok (.iastore, 1) := by decide +kernel
theorem dX1_begin_38 : decode cX1_begin 38 = .ok (.iinc 3 1, 3) := by decide +kernel
theorem dX1_begin_41 : decode cX1_begin 41 = .ok (.goto (-16), 3) := by decide +kernel
theorem dX1_begin_44 : decode cX1_begin 44 = .ok (.return_, 1) := by decide +kernel
def bX1_begin_25 (fu : Nat) (c : Nat) : Nat → mt_St → Int32 → Option (Unit × mt_St)
  | 0, _, _ => none
  | n + 1, σ, x3 =>
    if (40 : Int32) ≤ x3 then
      some ((), σ)
    else
      mt_chk (mt_in x3 40) <|
      mt_bnd (mt_up σ (c + 4) (Int32.toNatClampNeg x3) (0 : Int32)) fun s1 =>
      bX1_begin_25 fu c n s1 (x3 + 1)
set_option maxHeartbeats 4000000 in
set_option maxRecDepth 20000 in
theorem vX1_begin_25 {K : mt_C} {fu : Nat} {c : Nat} {r : Unit} {σf : mt_St} (hc : mt_kd c = 1) (hQ : mt_R K none none σf) : ∀ (n : Nat) (σ : mt_St) (x3 : Int32), mt_V K cX1_begin RX1 4 1 σ 25 [(0, .ref (mt_adr (kG K) c)), (3, .int x3)] [] (bX1_begin_25 fu c n σ x3 = some (r, σf)) := by
  intro n
  induction n with
  | zero => intro σ x3; intro hP; unfold bX1_begin_25 at hP; cases hP
  | succ n ih =>
    intro σ x3
    unfold bX1_begin_25
    refine mv_iload_n 1 dX1_begin_25 rfl rfl ?_
    refine mv_bipush (v := 40) dX1_begin_26 bp_40 ?_
    refine mv_icmp_ge 44 dX1_begin_28 (by decide) ?_ ?_
    · exact mv_vret hQ dX1_begin_44
    · refine mv_aload_n 0 dX1_begin_31 rfl rfl ?_
      refine mg_X1_2 hc fl_X1_18 dX1_begin_32 ?_
      refine mv_iload_n 1 dX1_begin_35 rfl rfl ?_
      refine mv_iconst (v := 0) dX1_begin_36 ic_0 ?_
      refine mv_iast 40 (kd_sh hc) (ln_sh hc) dX1_begin_37 (fun s1 => ?_)
      refine mv_iinc (k0 := 1) (v := x3 + 1) (lv' := [(0, .ref (mt_adr (kG K) c)), (3, .int (x3 + 1))]) [1, 0] dX1_begin_38 rfl (mt_inc ic_1) (by decide) rfl ?_
      refine mv_goto 25 dX1_begin_41 (by decide) ?_
      exact ih s1 (x3 + 1)
def bX1_begin_20 (fu : Nat) (c : Nat) (σ : mt_St) (y0 : Int32) : Option (Unit × mt_St) :=
  mt_bnd (mt_up σ c 1 y0) fun s1 =>
  bX1_begin_25 fu c fu s1 (0 : Int32)
set_option maxHeartbeats 4000000 in
set_option maxRecDepth 20000 in
theorem vX1_begin_20 {K : mt_C} {fu : Nat} {c : Nat} {r : Unit} {σf : mt_St} (hc : mt_kd c = 1) (hQ : mt_R K none none σf) : ∀ (σ : mt_St) (y0 : Int32), mt_V K cX1_begin RX1 4 1 σ 20 [(0, .ref (mt_adr (kG K) c))] [.int y0, .ref (mt_adr (kG K) c)] (bX1_begin_20 fu c σ y0 = some (r, σf)) := by
  intro σ y0
  unfold bX1_begin_20
  refine mp_X1_1 hc fl_X1_15 dX1_begin_20 (fun s1 => ?_)
  refine mv_iconst (v := 0) dX1_begin_23 ic_0 ?_
  refine mv_istore_n (lv' := [(0, .ref (mt_adr (kG K) c)), (3, .int (0 : Int32))]) [1, 0] dX1_begin_24 rfl (by decide) rfl ?_
  exact vX1_begin_25 hc hQ fu s1 (0 : Int32)
def fX1_begin (fu : Nat) (σ : mt_St) (c : Nat) (a1 : Int32) (a2 : Int32) : Option (Unit × mt_St) :=
  mt_bnd (mt_up σ c 0 a1) fun s1 =>
  if a1 = 0 then
    bX1_begin_20 fu c s1 (0 : Int32)
  else
    bX1_begin_20 fu c s1 (mt_min a2 (40 : Int32))
set_option maxHeartbeats 4000000 in
set_option maxRecDepth 20000 in
theorem vX1_begin {K : mt_C} {fu : Nat} {σ : mt_St} {c : Nat} {a1 : Int32} {a2 : Int32} {r : Unit} {σf : mt_St} (hc : mt_kd c = 1) (hQ : mt_R K none none σf) : mt_V K cX1_begin RX1 4 1 σ 0 [(0, .ref (mt_adr (kG K) c)), (1, .int a1), (2, .int a2)] [] (fX1_begin fu σ c a1 a2 = some (r, σf)) := by
  unfold fX1_begin
  refine mv_aload_n 0 dX1_begin_0 rfl rfl ?_
  refine mv_iload_n 1 dX1_begin_1 rfl rfl ?_
  refine mp_X1_0 hc fl_X1_9 dX1_begin_2 (fun s1 => ?_)
  refine mv_aload_n 0 dX1_begin_5 rfl rfl ?_
  refine mv_iload_n 1 dX1_begin_6 rfl rfl ?_
  refine mv_if_ne 14 dX1_begin_7 (by decide) ?_ ?_
  · refine mv_iload_n 2 dX1_begin_14 rfl rfl ?_
    refine mv_bipush (v := 40) dX1_begin_15 bp_40 ?_
    refine mv_mmin mm_X1_22 (by decide) (Nat.le_of_ble_eq_true rfl) dX1_begin_17 ?_
    refine mv_sub (lv' := [(0, .ref (mt_adr (kG K) c))]) [0] rfl ?_
    exact vX1_begin_20 hc hQ s1 (mt_min a2 (40 : Int32))
  · refine mv_iconst (v := 0) dX1_begin_10 ic_0 ?_
    refine mv_goto 20 dX1_begin_11 (by decide) ?_
    refine mv_sub (lv' := [(0, .ref (mt_adr (kG K) c))]) [0] rfl ?_
    exact vX1_begin_20 hc hQ s1 (0 : Int32)
theorem co_X1_begin {l : Launch} {G : mt_G} {fu : Nat} {σ : mt_St} {c : Nat} {a1 : Int32} {a2 : Int32} {r : Unit} {σf : mt_St} (hc : mt_kd c = 1) (h : fX1_begin fu σ c a1 a2 = some (r, σf)) : mt_Con l G yX1_begin cX1_begin 4 none 1 [.ref (mt_adr G c), .int a1, .int a2] σ none σf :=
  mt_con (by decide) (Nat.le_of_ble_eq_true rfl) (fun K hl hG hQ => by subst hl; subst hG; exact fun _ => vX1_begin hc hQ h)
theorem dX1_put_0 : decode cX1_put 0 = .ok (.iload_n 1, 1) := by decide +kernel
theorem dX1_put_1 : decode cX1_put 1 = .ok (.aload_n 0, 1) := by decide +kernel
theorem dX1_put_2 : decode cX1_put 2 = .ok (.getfield 15, 3) := by decide +kernel
theorem dX1_put_5 : decode cX1_put 5 = .ok (.iconst 1, 1) := by decide +kernel
theorem dX1_put_6 : decode cX1_put 6 = .ok (.isub, 1) := by decide +kernel
theorem dX1_put_7 : decode cX1_put 7 = .ok (.invokestatic 28, 3) := by decide +kernel
theorem dX1_put_10 : decode cX1_put 10 = .ok (.ifCond .eq 38, 3) := by decide +kernel
theorem dX1_put_13 : decode cX1_put 13 = .ok (.aload_n 0, 1) := by decide +kernel
theorem dX1_put_14 : decode cX1_put 14 = .ok (.getfield 18, 3) := by decide +kernel
theorem dX1_put_17 : decode cX1_put 17 = .ok (.iload_n 1, 1) := by decide +kernel
theorem dX1_put_18 : decode cX1_put 18 = .ok (.aload_n 0, 1) := by decide +kernel
theorem dX1_put_19 : decode cX1_put 19 = .ok (.getfield 9, 3) := by decide +kernel
theorem dX1_put_22 : decode cX1_put 22 = .ok (.bipush 8, 2) := by decide +kernel
theorem dX1_put_24 : decode cX1_put 24 = .ok (.if_icmp .ne 8, 3) := by decide +kernel
theorem dX1_put_27 : decode cX1_put 27 = .ok (.iload_n 2, 1) := by decide +kernel
theorem dX1_put_28 : decode cX1_put 28 = .ok (.i2b, 1) := by decide +kernel
theorem dX1_put_29 : decode cX1_put 29 = .ok (.goto 18, 3) := by decide +kernel
theorem dX1_put_32 : decode cX1_put 32 = .ok (.aload_n 0, 1) := by decide +kernel
theorem dX1_put_33 : decode cX1_put 33 = .ok (.getfield 9, 3) := by decide +kernel
theorem dX1_put_36 : decode cX1_put 36 = .ok (.bipush 16, 2) := by decide +kernel
theorem dX1_put_38 : decode cX1_put 38 = .ok (.if_icmp .ne 8, 3) := by decide +kernel
theorem dX1_put_41 : decode cX1_put 41 = .ok (.iload_n 2, 1) := by decide +kernel
theorem dX1_put_42 : decode cX1_put 42 = .ok (.i2s, 1) := by decide +kernel
theorem dX1_put_43 : decode cX1_put 43 = .ok (.goto 4, 3) := by decide +kernel
theorem dX1_put_46 : decode cX1_put 46 = .ok (.iload_n 2, 1) := by decide +kernel
theorem dX1_put_47 : decode cX1_put 47 = .ok (.iastore, 1) := by decide +kernel
theorem dX1_put_48 : decode cX1_put 48 = .ok (.return_, 1) := by decide +kernel
def bX1_put_48 (fu : Nat) (c : Nat) (σ : mt_St) : Option (Unit × mt_St) :=
  some ((), σ)
set_option maxHeartbeats 4000000 in
set_option maxRecDepth 20000 in
theorem vX1_put_48 {K : mt_C} {fu : Nat} {c : Nat} {r : Unit} {σf : mt_St} (hc : mt_kd c = 1) (hQ : mt_R K none none σf) : ∀ (σ : mt_St), mt_V K cX1_put RX1 3 1 σ 48 [] [] (bX1_put_48 fu c σ = some (r, σf)) := by
  intro σ
  unfold bX1_put_48
  exact mv_vret hQ dX1_put_48
def bX1_put_47 (fu : Nat) (c : Nat) (σ : mt_St) (y0 : Int32) (y1 : Int32) : Option (Unit × mt_St) :=
  mt_chk (mt_in y1 40) <|
  mt_bnd (mt_up σ (c + 4) (Int32.toNatClampNeg y1) y0) fun s1 =>
  bX1_put_48 fu c s1
set_option maxHeartbeats 4000000 in
set_option maxRecDepth 20000 in
theorem vX1_put_47 {K : mt_C} {fu : Nat} {c : Nat} {r : Unit} {σf : mt_St} (hc : mt_kd c = 1) (hQ : mt_R K none none σf) : ∀ (σ : mt_St) (y0 : Int32) (y1 : Int32), mt_V K cX1_put RX1 3 1 σ 47 [] [.int y0, .int y1, .ref (mt_adr (kG K) (c + 4))] (bX1_put_47 fu c σ y0 y1 = some (r, σf)) := by
  intro σ y0 y1
  unfold bX1_put_47
  refine mv_iast 40 (kd_sh hc) (ln_sh hc) dX1_put_47 (fun s1 => ?_)
  exact vX1_put_48 hc hQ s1
def fX1_put (fu : Nat) (σ : mt_St) (c : Nat) (a1 : Int32) (a2 : Int32) : Option (Unit × mt_St) :=
  mt_ask (fX5_isWithin fu a1 ((σ c 1) - (1 : Int32))) fun r1 =>
  if r1 = 0 then
    bX1_put_48 fu c σ
  else
    if (σ c 0) = (8 : Int32) then
      bX1_put_47 fu c σ ((Int32.toInt8 a2).toInt32) a1
    else
      if (σ c 0) = (16 : Int32) then
        bX1_put_47 fu c σ ((Int32.toInt16 a2).toInt32) a1
      else
        bX1_put_47 fu c σ a2 a1
set_option maxHeartbeats 4000000 in
set_option maxRecDepth 20000 in
theorem vX1_put {K : mt_C} {fu : Nat} {σ : mt_St} {c : Nat} {a1 : Int32} {a2 : Int32} {r : Unit} {σf : mt_St} (hc : mt_kd c = 1) (hQ : mt_R K none none σf) : mt_V K cX1_put RX1 3 1 σ 0 [(0, .ref (mt_adr (kG K) c)), (1, .int a1), (2, .int a2)] [] (fX1_put fu σ c a1 a2 = some (r, σf)) := by
  unfold fX1_put
  refine mv_iload_n 1 dX1_put_0 rfl rfl ?_
  refine mv_aload_n 0 dX1_put_1 rfl rfl ?_
  refine mg_X1_1 hc fl_X1_15 dX1_put_2 ?_
  refine mv_iconst (v := 1) dX1_put_5 ic_1 ?_
  refine mv_isub dX1_put_6 ?_
  refine mv_cSri (As := [.int a1, .int ((σ c 1) - (1 : Int32))]) (st := []) cal_X5_isWithin sta_X5_isWithin ml_X1_28 rfl (by decide) rfl (Nat.le_of_ble_eq_true rfl) dX1_put_7 (fun r h => co_X5_isWithin h) (fun r1 => ?_)
  refine mv_if_eq 48 dX1_put_10 (by decide) ?_ ?_
  · refine mv_sub (lv' := []) [] rfl ?_
    exact vX1_put_48 hc hQ σ
  · refine mv_aload_n 0 dX1_put_13 rfl rfl ?_
    refine mg_X1_2 hc fl_X1_18 dX1_put_14 ?_
    refine mv_iload_n 1 dX1_put_17 rfl rfl ?_
    refine mv_aload_n 0 dX1_put_18 rfl rfl ?_
    refine mg_X1_0 hc fl_X1_9 dX1_put_19 ?_
    refine mv_bipush (v := 8) dX1_put_22 bp_8 ?_
    refine mv_icmp_ne 32 dX1_put_24 (by decide) ?_ ?_
    · refine mv_aload_n 0 dX1_put_32 rfl rfl ?_
      refine mg_X1_0 hc fl_X1_9 dX1_put_33 ?_
      refine mv_bipush (v := 16) dX1_put_36 bp_16 ?_
      refine mv_icmp_ne 46 dX1_put_38 (by decide) ?_ ?_
      · refine mv_iload_n 2 dX1_put_46 rfl rfl ?_
        refine mv_sub (lv' := []) [] rfl ?_
        exact vX1_put_47 hc hQ σ a2 a1
      · refine mv_iload_n 2 dX1_put_41 rfl rfl ?_
        refine mv_i2s dX1_put_42 ?_
        refine mv_goto 47 dX1_put_43 (by decide) ?_
        refine mv_sub (lv' := []) [] rfl ?_
        exact vX1_put_47 hc hQ σ ((Int32.toInt16 a2).toInt32) a1
    · refine mv_iload_n 2 dX1_put_27 rfl rfl ?_
      refine mv_i2b dX1_put_28 ?_
      refine mv_goto 47 dX1_put_29 (by decide) ?_
      refine mv_sub (lv' := []) [] rfl ?_
      exact vX1_put_47 hc hQ σ ((Int32.toInt8 a2).toInt32) a1
theorem co_X1_put {l : Launch} {G : mt_G} {fu : Nat} {σ : mt_St} {c : Nat} {a1 : Int32} {a2 : Int32} {r : Unit} {σf : mt_St} (hc : mt_kd c = 1) (h : fX1_put fu σ c a1 a2 = some (r, σf)) : mt_Con l G yX1_put cX1_put 3 none 1 [.ref (mt_adr G c), .int a1, .int a2] σ none σf :=
  mt_con (by decide) (Nat.le_of_ble_eq_true rfl) (fun K hl hG hQ => by subst hl; subst hG; exact fun _ => vX1_put hc hQ h)
theorem dX1_allows_0 : decode cX1_allows 0 = .ok (.iload_n 1, 1) := by decide +kernel
theorem dX1_allows_1 : decode cX1_allows 1 = .ok (.aload_n 0, 1) := by decide +kernel
theorem dX1_allows_2 : decode cX1_allows 2 = .ok (.getfield 15, 3) := by decide +kernel
theorem dX1_allows_5 : decode cX1_allows 5 = .ok (.iconst 1, 1) := by decide +kernel
theorem dX1_allows_6 : decode cX1_allows 6 = .ok (.isub, 1) := by decide +kernel
theorem dX1_allows_7 : decode cX1_allows 7 = .ok (.invokestatic 28, 3) := by decide +kernel
theorem dX1_allows_10 : decode cX1_allows 10 = .ok (.ifCond .eq 23, 3) := by decide +kernel
theorem dX1_allows_13 : decode cX1_allows 13 = .ok (.aload_n 0, 1) := by decide +kernel
theorem dX1_allows_14 : decode cX1_allows 14 = .ok (.getfield 18, 3) := by decide +kernel
theorem dX1_allows_17 : decode cX1_allows 17 = .ok (.iload_n 1, 1) := by decide +kernel
theorem dX1_allows_18 : decode cX1_allows 18 = .ok (.iaload, 1) := by decide +kernel
theorem dX1_allows_19 : decode cX1_allows 19 = .ok (.iconst (-1), 1) := by decide +kernel
theorem dX1_allows_20 : decode cX1_allows 20 = .ok (.if_icmp .eq 13, 3) := by decide +kernel
theorem dX1_allows_23 : decode cX1_allows 23 = .ok (.aload_n 0, 1) := by decide +kernel
theorem dX1_allows_24 : decode cX1_allows 24 = .ok (.getfield 18, 3) := by decide +kernel
theorem dX1_allows_27 : decode cX1_allows 27 = .ok (.iload_n 1, 1) := by decide +kernel
theorem dX1_allows_28 : decode cX1_allows 28 = .ok (.iaload, 1) := by decide +kernel
theorem dX1_allows_29 : decode cX1_allows 29 = .ok (.iload_n 2, 1) := by decide +kernel
theorem dX1_allows_30 : decode cX1_allows 30 = .ok (.if_icmp .ne 7, 3) := by decide +kernel
theorem dX1_allows_33 : decode cX1_allows 33 = .ok (.iconst 1, 1) := by decide +kernel
theorem dX1_allows_34 : decode cX1_allows 34 = .ok (.goto 4, 3) := by decide +kernel
theorem dX1_allows_37 : decode cX1_allows 37 = .ok (.iconst 0, 1) := by decide +kernel
theorem dX1_allows_38 : decode cX1_allows 38 = .ok (.ireturn, 1) := by decide +kernel
def bX1_allows_38 (fu : Nat) (c : Nat) (σ : mt_St) (y0 : Int32) : Option Int32 :=
  mt_chk (mt_b01 y0) (some y0)
set_option maxHeartbeats 4000000 in
set_option maxRecDepth 20000 in
theorem vX1_allows_38 {K : mt_C} {fu : Nat} {c : Nat} {σ : mt_St} {r : Int32} (hc : mt_kd c = 1) (hQ : mt_R K (some .boolean) (some (.int r)) σ) : ∀ (y0 : Int32), mt_V K cX1_allows RX1 3 1 σ 38 [] [.int y0] (bX1_allows_38 fu c σ y0 = some r) := by
  intro y0
  unfold bX1_allows_38
  exact mv_zretr hQ dX1_allows_38
def bX1_allows_33 (fu : Nat) (c : Nat) (σ : mt_St) : Option Int32 :=
  bX1_allows_38 fu c σ (1 : Int32)
set_option maxHeartbeats 4000000 in
set_option maxRecDepth 20000 in
theorem vX1_allows_33 {K : mt_C} {fu : Nat} {c : Nat} {σ : mt_St} {r : Int32} (hc : mt_kd c = 1) (hQ : mt_R K (some .boolean) (some (.int r)) σ) : mt_V K cX1_allows RX1 3 1 σ 33 [] [] (bX1_allows_33 fu c σ = some r) := by
  unfold bX1_allows_33
  refine mv_iconst (v := 1) dX1_allows_33 ic_1 ?_
  refine mv_goto 38 dX1_allows_34 (by decide) ?_
  exact vX1_allows_38 hc hQ (1 : Int32)
def fX1_allows (fu : Nat) (σ : mt_St) (c : Nat) (a1 : Int32) (a2 : Int32) : Option Int32 :=
  mt_ask (fX5_isWithin fu a1 ((σ c 1) - (1 : Int32))) fun r1 =>
  if r1 = 0 then
    bX1_allows_33 fu c σ
  else
    mt_chk (mt_in a1 40) <|
    if (σ (c + 4) (Int32.toNatClampNeg a1)) = (-1 : Int32) then
      bX1_allows_33 fu c σ
    else
      mt_chk (mt_in a1 40) <|
      if (σ (c + 4) (Int32.toNatClampNeg a1)) = a2 then
        bX1_allows_33 fu c σ
      else
        bX1_allows_38 fu c σ (0 : Int32)
set_option maxHeartbeats 4000000 in
set_option maxRecDepth 20000 in
theorem vX1_allows {K : mt_C} {fu : Nat} {σ : mt_St} {c : Nat} {a1 : Int32} {a2 : Int32} {r : Int32} (hc : mt_kd c = 1) (hQ : mt_R K (some .boolean) (some (.int r)) σ) : mt_V K cX1_allows RX1 3 1 σ 0 [(0, .ref (mt_adr (kG K) c)), (1, .int a1), (2, .int a2)] [] (fX1_allows fu σ c a1 a2 = some r) := by
  unfold fX1_allows
  refine mv_iload_n 1 dX1_allows_0 rfl rfl ?_
  refine mv_aload_n 0 dX1_allows_1 rfl rfl ?_
  refine mg_X1_1 hc fl_X1_15 dX1_allows_2 ?_
  refine mv_iconst (v := 1) dX1_allows_5 ic_1 ?_
  refine mv_isub dX1_allows_6 ?_
  refine mv_cSri (As := [.int a1, .int ((σ c 1) - (1 : Int32))]) (st := []) cal_X5_isWithin sta_X5_isWithin ml_X1_28 rfl (by decide) rfl (Nat.le_of_ble_eq_true rfl) dX1_allows_7 (fun r h => co_X5_isWithin h) (fun r1 => ?_)
  refine mv_if_eq 33 dX1_allows_10 (by decide) ?_ ?_
  · refine mv_sub (lv' := []) [] rfl ?_
    exact vX1_allows_33 hc hQ
  · refine mv_aload_n 0 dX1_allows_13 rfl rfl ?_
    refine mg_X1_2 hc fl_X1_18 dX1_allows_14 ?_
    refine mv_iload_n 1 dX1_allows_17 rfl rfl ?_
    refine mv_iald 40 (kd_sh hc) (ln_sh hc) dX1_allows_18 ?_
    refine mv_iconst (v := -1) dX1_allows_19 ic_m1 ?_
    refine mv_icmp_eq 33 dX1_allows_20 (by decide) ?_ ?_
    · refine mv_sub (lv' := []) [] rfl ?_
      exact vX1_allows_33 hc hQ
    · refine mv_aload_n 0 dX1_allows_23 rfl rfl ?_
      refine mg_X1_2 hc fl_X1_18 dX1_allows_24 ?_
      refine mv_iload_n 1 dX1_allows_27 rfl rfl ?_
      refine mv_iald 40 (kd_sh hc) (ln_sh hc) dX1_allows_28 ?_
      refine mv_iload_n 2 dX1_allows_29 rfl rfl ?_
      refine mv_icmp_ne 37 dX1_allows_30 (by decide) ?_ ?_
      · refine mv_iconst (v := 0) dX1_allows_37 ic_0 ?_
        refine mv_sub (lv' := []) [] rfl ?_
        exact vX1_allows_38 hc hQ (0 : Int32)
      · refine mv_sub (lv' := []) [] rfl ?_
        exact vX1_allows_33 hc hQ
theorem co_X1_allows {l : Launch} {G : mt_G} {fu : Nat} {σ : mt_St} {c : Nat} {a1 : Int32} {a2 : Int32} {r : Int32} (hc : mt_kd c = 1) (h : fX1_allows fu σ c a1 a2 = some r) : mt_Con l G yX1_allows cX1_allows 3 (some .boolean) 1 [.ref (mt_adr G c), .int a1, .int a2] σ (some (.int r)) σ :=
  mt_con (by decide) (Nat.le_of_ble_eq_true rfl) (fun K hl hG hQ => by subst hl; subst hG; exact fun _ => vX1_allows hc hQ h)
theorem dX1_hasRange_0 : decode cX1_hasRange 0 = .ok (.iload_n 1, 1) := by decide +kernel
theorem dX1_hasRange_1 : decode cX1_hasRange 1 = .ok (.ifCond .lt 29, 3) := by decide +kernel
theorem dX1_hasRange_4 : decode cX1_hasRange 4 = .ok (.iload_n 2, 1) := by decide +kernel
theorem dX1_hasRange_5 : decode cX1_hasRange 5 = .ok (.ifCond .lt 25, 3) := by decide +kernel
theorem dX1_hasRange_8 : decode cX1_hasRange 8 = .ok (.iload_n 2, 1) := by decide +kernel
theorem dX1_hasRange_9 : decode cX1_hasRange 9 = .ok (.aload_n 0, 1) := by decide +kernel
theorem dX1_hasRange_10 : decode cX1_hasRange 10 = .ok (.getfield 15, 3) := by decide +kernel
theorem dX1_hasRange_13 : decode cX1_hasRange 13 = .ok (.if_icmp .gt 17, 3) := by decide +kernel
theorem dX1_hasRange_16 : decode cX1_hasRange 16 = .ok (.iload_n 1, 1) := by decide +kernel
theorem dX1_hasRange_17 : decode cX1_hasRange 17 = .ok (.aload_n 0, 1) := by decide +kernel
theorem dX1_hasRange_18 : decode cX1_hasRange 18 = .ok (.getfield 15, 3) := by decide +kernel
theorem dX1_hasRange_21 : decode cX1_hasRange 21 = .ok (.iload_n 2, 1) := by decide +kernel
theorem dX1_hasRange_22 : decode cX1_hasRange 22 = .ok (.isub, 1) := by decide +kernel
theorem dX1_hasRange_23 : decode cX1_hasRange 23 = .ok (.if_icmp .gt 7, 3) := by decide +kernel
theorem dX1_hasRange_26 : decode cX1_hasRange 26 = .ok (.iconst 1, 1) := by decide +kernel
theorem dX1_hasRange_27 : decode cX1_hasRange 27 = .ok (.goto 4, 3) := by decide +kernel
theorem dX1_hasRange_30 : decode cX1_hasRange 30 = .ok (.iconst 0, 1) := by decide +kernel
theorem dX1_hasRange_31 : decode cX1_hasRange 31 = .ok (.ireturn, 1) := by decide +kernel
def bX1_hasRange_31 (fu : Nat) (c : Nat) (σ : mt_St) (y0 : Int32) : Option Int32 :=
  mt_chk (mt_b01 y0) (some y0)
set_option maxHeartbeats 4000000 in
set_option maxRecDepth 20000 in
theorem vX1_hasRange_31 {K : mt_C} {fu : Nat} {c : Nat} {σ : mt_St} {r : Int32} (hc : mt_kd c = 1) (hQ : mt_R K (some .boolean) (some (.int r)) σ) : ∀ (y0 : Int32), mt_V K cX1_hasRange RX1 3 0 σ 31 [] [.int y0] (bX1_hasRange_31 fu c σ y0 = some r) := by
  intro y0
  unfold bX1_hasRange_31
  exact mv_zretr hQ dX1_hasRange_31
def bX1_hasRange_30 (fu : Nat) (c : Nat) (σ : mt_St) : Option Int32 :=
  bX1_hasRange_31 fu c σ (0 : Int32)
set_option maxHeartbeats 4000000 in
set_option maxRecDepth 20000 in
theorem vX1_hasRange_30 {K : mt_C} {fu : Nat} {c : Nat} {σ : mt_St} {r : Int32} (hc : mt_kd c = 1) (hQ : mt_R K (some .boolean) (some (.int r)) σ) : mt_V K cX1_hasRange RX1 3 0 σ 30 [] [] (bX1_hasRange_30 fu c σ = some r) := by
  unfold bX1_hasRange_30
  refine mv_iconst (v := 0) dX1_hasRange_30 ic_0 ?_
  exact vX1_hasRange_31 hc hQ (0 : Int32)
def fX1_hasRange (fu : Nat) (σ : mt_St) (c : Nat) (a1 : Int32) (a2 : Int32) : Option Int32 :=
  if a1 < 0 then
    bX1_hasRange_30 fu c σ
  else
    if a2 < 0 then
      bX1_hasRange_30 fu c σ
    else
      if (σ c 1) < a2 then
        bX1_hasRange_30 fu c σ
      else
        if ((σ c 1) - a2) < a1 then
          bX1_hasRange_30 fu c σ
        else
          bX1_hasRange_31 fu c σ (1 : Int32)
set_option maxHeartbeats 4000000 in
set_option maxRecDepth 20000 in
theorem vX1_hasRange {K : mt_C} {fu : Nat} {σ : mt_St} {c : Nat} {a1 : Int32} {a2 : Int32} {r : Int32} (hc : mt_kd c = 1) (hQ : mt_R K (some .boolean) (some (.int r)) σ) : mt_V K cX1_hasRange RX1 3 0 σ 0 [(0, .ref (mt_adr (kG K) c)), (1, .int a1), (2, .int a2)] [] (fX1_hasRange fu σ c a1 a2 = some r) := by
  unfold fX1_hasRange
  refine mv_iload_n 1 dX1_hasRange_0 rfl rfl ?_
  refine mv_if_lt 30 dX1_hasRange_1 (by decide) ?_ ?_
  · refine mv_sub (lv' := []) [] rfl ?_
    exact vX1_hasRange_30 hc hQ
  · refine mv_iload_n 2 dX1_hasRange_4 rfl rfl ?_
    refine mv_if_lt 30 dX1_hasRange_5 (by decide) ?_ ?_
    · refine mv_sub (lv' := []) [] rfl ?_
      exact vX1_hasRange_30 hc hQ
    · refine mv_iload_n 2 dX1_hasRange_8 rfl rfl ?_
      refine mv_aload_n 0 dX1_hasRange_9 rfl rfl ?_
      refine mg_X1_1 hc fl_X1_15 dX1_hasRange_10 ?_
      refine mv_icmp_gt 30 dX1_hasRange_13 (by decide) ?_ ?_
      · refine mv_sub (lv' := []) [] rfl ?_
        exact vX1_hasRange_30 hc hQ
      · refine mv_iload_n 1 dX1_hasRange_16 rfl rfl ?_
        refine mv_aload_n 0 dX1_hasRange_17 rfl rfl ?_
        refine mg_X1_1 hc fl_X1_15 dX1_hasRange_18 ?_
        refine mv_iload_n 2 dX1_hasRange_21 rfl rfl ?_
        refine mv_isub dX1_hasRange_22 ?_
        refine mv_icmp_gt 30 dX1_hasRange_23 (by decide) ?_ ?_
        · refine mv_sub (lv' := []) [] rfl ?_
          exact vX1_hasRange_30 hc hQ
        · refine mv_iconst (v := 1) dX1_hasRange_26 ic_1 ?_
          refine mv_goto 31 dX1_hasRange_27 (by decide) ?_
          refine mv_sub (lv' := []) [] rfl ?_
          exact vX1_hasRange_31 hc hQ (1 : Int32)
theorem co_X1_hasRange {l : Launch} {G : mt_G} {fu : Nat} {σ : mt_St} {c : Nat} {a1 : Int32} {a2 : Int32} {r : Int32} (hc : mt_kd c = 1) (h : fX1_hasRange fu σ c a1 a2 = some r) : mt_Con l G yX1_hasRange cX1_hasRange 3 (some .boolean) 0 [.ref (mt_adr G c), .int a1, .int a2] σ (some (.int r)) σ :=
  mt_con (by decide) (Nat.le_of_ble_eq_true rfl) (fun K hl hG hQ => by subst hl; subst hG; exact fun _ => vX1_hasRange hc hQ h)
theorem dX1_lastTold_0 : decode cX1_lastTold 0 = .ok (.aload_n 0, 1) := by decide +kernel
theorem dX1_lastTold_1 : decode cX1_lastTold 1 = .ok (.getfield 15, 3) := by decide +kernel
theorem dX1_lastTold_4 : decode cX1_lastTold 4 = .ok (.iload_n 1, 1) := by decide +kernel
theorem dX1_lastTold_5 : decode cX1_lastTold 5 = .ok (.invokestatic 22, 3) := by decide +kernel
theorem dX1_lastTold_8 : decode cX1_lastTold 8 = .ok (.istore_n 2, 1) := by decide +kernel
theorem dX1_lastTold_9 : decode cX1_lastTold 9 = .ok (.iload_n 2, 1) := by decide +kernel
theorem dX1_lastTold_10 : decode cX1_lastTold 10 = .ok (.ifCond .le 23, 3) := by decide +kernel
theorem dX1_lastTold_13 : decode cX1_lastTold 13 = .ok (.aload_n 0, 1) := by decide +kernel
theorem dX1_lastTold_14 : decode cX1_lastTold 14 = .ok (.getfield 18, 3) := by decide +kernel
theorem dX1_lastTold_17 : decode cX1_lastTold 17 = .ok (.iload_n 2, 1) := by decide +kernel
theorem dX1_lastTold_18 : decode cX1_lastTold 18 = .ok (.iconst 1, 1) := by decide +kernel
theorem dX1_lastTold_19 : decode cX1_lastTold 19 = .ok (.isub, 1) := by decide +kernel
theorem dX1_lastTold_20 : decode cX1_lastTold 20 = .ok (.iaload, 1) := by decide +kernel
theorem dX1_lastTold_21 : decode cX1_lastTold 21 = .ok (.iconst (-1), 1) := by decide +kernel
theorem dX1_lastTold_22 : decode cX1_lastTold 22 = .ok (.if_icmp .eq 5, 3) := by decide +kernel
theorem dX1_lastTold_25 : decode cX1_lastTold 25 = .ok (.iload_n 2, 1) := by decide +kernel
theorem dX1_lastTold_26 : decode cX1_lastTold 26 = .ok (.ireturn, 1) := by decide +kernel
theorem dX1_lastTold_27 : decode cX1_lastTold 27 = .ok (.iinc 2 (-1), 3) := by decide +kernel
theorem dX1_lastTold_30 : decode cX1_lastTold 30 = .ok (.goto (-21), 3) := by decide +kernel
theorem dX1_lastTold_33 : decode cX1_lastTold 33 = .ok (.iconst 0, 1) := by decide +kernel
theorem dX1_lastTold_34 : decode cX1_lastTold 34 = .ok (.ireturn, 1) := by decide +kernel
def bX1_lastTold_9 (fu : Nat) (c : Nat) (σ : mt_St) : Nat → Int32 → Option Int32
  | 0, _ => none
  | n + 1, x2 =>
    if x2 ≤ 0 then
      some (0 : Int32)
    else
      mt_chk (mt_in (x2 - (1 : Int32)) 40) <|
      if (σ (c + 4) (Int32.toNatClampNeg (x2 - (1 : Int32)))) = (-1 : Int32) then
        bX1_lastTold_9 fu c σ n (x2 + -1)
      else
        some x2
set_option maxHeartbeats 4000000 in
set_option maxRecDepth 20000 in
theorem vX1_lastTold_9 {K : mt_C} {fu : Nat} {c : Nat} {σ : mt_St} {r : Int32} (hc : mt_kd c = 1) (hQ : mt_R K (some .int) (some (.int r)) σ) : ∀ (n : Nat) (x2 : Int32), mt_V K cX1_lastTold RX1 3 1 σ 9 [(0, .ref (mt_adr (kG K) c)), (2, .int x2)] [] (bX1_lastTold_9 fu c σ n x2 = some r) := by
  intro n
  induction n with
  | zero => intro x2; intro hP; unfold bX1_lastTold_9 at hP; cases hP
  | succ n ih =>
    intro x2
    unfold bX1_lastTold_9
    refine mv_iload_n 1 dX1_lastTold_9 rfl rfl ?_
    refine mv_if_le 33 dX1_lastTold_10 (by decide) ?_ ?_
    · refine mv_iconst (v := 0) dX1_lastTold_33 ic_0 ?_
      exact mv_iretr hQ dX1_lastTold_34
    · refine mv_aload_n 0 dX1_lastTold_13 rfl rfl ?_
      refine mg_X1_2 hc fl_X1_18 dX1_lastTold_14 ?_
      refine mv_iload_n 1 dX1_lastTold_17 rfl rfl ?_
      refine mv_iconst (v := 1) dX1_lastTold_18 ic_1 ?_
      refine mv_isub dX1_lastTold_19 ?_
      refine mv_iald 40 (kd_sh hc) (ln_sh hc) dX1_lastTold_20 ?_
      refine mv_iconst (v := -1) dX1_lastTold_21 ic_m1 ?_
      refine mv_icmp_eq 27 dX1_lastTold_22 (by decide) ?_ ?_
      · refine mv_iinc (k0 := 1) (v := x2 + -1) (lv' := [(0, .ref (mt_adr (kG K) c)), (2, .int (x2 + -1))]) [1, 0] dX1_lastTold_27 rfl (mt_inc ic_m1) (by decide) rfl ?_
        refine mv_goto 9 dX1_lastTold_30 (by decide) ?_
        exact ih (x2 + -1)
      · refine mv_iload_n 1 dX1_lastTold_25 rfl rfl ?_
        exact mv_iretr hQ dX1_lastTold_26
def fX1_lastTold (fu : Nat) (σ : mt_St) (c : Nat) (a1 : Int32) : Option Int32 :=
  bX1_lastTold_9 fu c σ fu (mt_min (σ c 1) a1)
set_option maxHeartbeats 4000000 in
set_option maxRecDepth 20000 in
theorem vX1_lastTold {K : mt_C} {fu : Nat} {σ : mt_St} {c : Nat} {a1 : Int32} {r : Int32} (hc : mt_kd c = 1) (hQ : mt_R K (some .int) (some (.int r)) σ) : mt_V K cX1_lastTold RX1 3 1 σ 0 [(0, .ref (mt_adr (kG K) c)), (1, .int a1)] [] (fX1_lastTold fu σ c a1 = some r) := by
  unfold fX1_lastTold
  refine mv_aload_n 0 dX1_lastTold_0 rfl rfl ?_
  refine mg_X1_1 hc fl_X1_15 dX1_lastTold_1 ?_
  refine mv_iload_n 1 dX1_lastTold_4 rfl rfl ?_
  refine mv_mmin mm_X1_22 (by decide) (Nat.le_of_ble_eq_true rfl) dX1_lastTold_5 ?_
  refine mv_istore_n (lv' := [(0, .ref (mt_adr (kG K) c)), (2, .int (mt_min (σ c 1) a1))]) [1, 0] dX1_lastTold_8 rfl (by decide) rfl ?_
  exact vX1_lastTold_9 hc hQ fu (mt_min (σ c 1) a1)
theorem co_X1_lastTold {l : Launch} {G : mt_G} {fu : Nat} {σ : mt_St} {c : Nat} {a1 : Int32} {r : Int32} (hc : mt_kd c = 1) (h : fX1_lastTold fu σ c a1 = some r) : mt_Con l G yX1_lastTold cX1_lastTold 3 (some .int) 1 [.ref (mt_adr G c), .int a1] σ (some (.int r)) σ :=
  mt_con (by decide) (Nat.le_of_ble_eq_true rfl) (fun K hl hG hQ => by subst hl; subst hG; exact fun _ => vX1_lastTold hc hQ h)
theorem dX2_add_0 : decode cX2_add 0 = .ok (.iload_n 1, 1) := by decide +kernel
theorem dX2_add_1 : decode cX2_add 1 = .ok (.invokestatic 41, 3) := by decide +kernel
theorem dX2_add_4 : decode cX2_add 4 = .ok (.iload_n 2, 1) := by decide +kernel
theorem dX2_add_5 : decode cX2_add 5 = .ok (.if_icmp .le 43, 3) := by decide +kernel
theorem dX2_add_8 : decode cX2_add 8 = .ok (.aload_n 0, 1) := by decide +kernel
theorem dX2_add_9 : decode cX2_add 9 = .ok (.getfield 18, 3) := by decide +kernel
theorem dX2_add_12 : decode cX2_add 12 = .ok (.sipush 192, 3) := by decide +kernel
theorem dX2_add_15 : decode cX2_add 15 = .ok (.if_icmp .ge 33, 3) := by decide +kernel
theorem dX2_add_18 : decode cX2_add 18 = .ok (.aload_n 0, 1) := by decide +kernel
theorem dX2_add_19 : decode cX2_add 19 = .ok (.getfield 11, 3) := by decide +kernel
theorem dX2_add_22 : decode cX2_add 22 = .ok (.aload_n 0, 1) := by decide +kernel
theorem dX2_add_23 : decode cX2_add 23 = .ok (.getfield 18, 3) := by decide +kernel
theorem dX2_add_26 : decode cX2_add 26 = .ok (.iload_n 1, 1) := by decide +kernel
theorem dX2_add_27 : decode cX2_add 27 = .ok (.iastore, 1) := by decide +kernel
theorem dX2_add_28 : decode cX2_add 28 = .ok (.aload_n 0, 1) := by decide +kernel
theorem dX2_add_29 : decode cX2_add 29 = .ok (.getfield 15, 3) := by decide +kernel
theorem dX2_add_32 : decode cX2_add 32 = .ok (.aload_n 0, 1) := by decide +kernel
theorem dX2_add_33 : decode cX2_add 33 = .ok (.getfield 18, 3) := by decide +kernel
theorem dX2_add_36 : decode cX2_add 36 = .ok (.iload_n 2, 1) := by decide +kernel
theorem dX2_add_37 : decode cX2_add 37 = .ok (.iastore, 1) := by decide +kernel
theorem dX2_add_38 : decode cX2_add 38 = .ok (.aload_n 0, 1) := by decide +kernel
theorem dX2_add_39 : decode cX2_add 39 = .ok (.dup, 1) := by decide +kernel
theorem dX2_add_40 : decode cX2_add 40 = .ok (.getfield 18, 3) := by decide +kernel
theorem dX2_add_43 : decode cX2_add 43 = .ok (.iconst 1, 1) := by decide +kernel
theorem dX2_add_44 : decode cX2_add 44 = .ok (.iadd, 1) := by decide +kernel
theorem dX2_add_45 : decode cX2_add 45 = .ok (.putfield 18, 3) := by decide +kernel
theorem dX2_add_48 : decode cX2_add 48 = .ok (.return_, 1) := by decide +kernel
def bX2_add_48 (fu : Nat) (σ : mt_St) : Option (Unit × mt_St) :=
  some ((), σ)
set_option maxHeartbeats 4000000 in
set_option maxRecDepth 20000 in
theorem vX2_add_48 {K : mt_C} {fu : Nat} {r : Unit} {σf : mt_St} (hQ : mt_R K none none σf) : ∀ (σ : mt_St), mt_V K cX2_add RX2 3 1 σ 48 [] [] (bX2_add_48 fu σ = some (r, σf)) := by
  intro σ
  unfold bX2_add_48
  exact mv_vret hQ dX2_add_48
def fX2_add (fu : Nat) (σ : mt_St) (a1 : Int32) (a2 : Int32) : Option (Unit × mt_St) :=
  mt_ask (fJ6_bitCount_0f7a4 fu a1) fun r1 =>
  if r1 ≤ a2 then
    bX2_add_48 fu σ
  else
    if (192 : Int32) ≤ (σ 39 2) then
      bX2_add_48 fu σ
    else
      mt_chk (mt_in (σ 39 2) 192) <|
      mt_bnd (mt_up σ 40 (Int32.toNatClampNeg (σ 39 2)) a1) fun s2 =>
      mt_chk (mt_in (s2 39 2) 192) <|
      mt_bnd (mt_up s2 41 (Int32.toNatClampNeg (s2 39 2)) a2) fun s3 =>
      mt_bnd (mt_up s3 39 2 ((s3 39 2) + (1 : Int32))) fun s4 =>
      bX2_add_48 fu s4
set_option maxHeartbeats 4000000 in
set_option maxRecDepth 20000 in
theorem vX2_add {K : mt_C} {fu : Nat} {σ : mt_St} {a1 : Int32} {a2 : Int32} {r : Unit} {σf : mt_St} (hQ : mt_R K none none σf) : mt_V K cX2_add RX2 3 1 σ 0 [(0, .ref (mt_adr (kG K) 39)), (1, .int a1), (2, .int a2)] [] (fX2_add fu σ a1 a2 = some (r, σf)) := by
  unfold fX2_add
  refine mv_iload_n 1 dX2_add_0 rfl rfl ?_
  refine mv_cSri (As := [.int a1]) (st := []) cal_J6_bitCount_0f7a4 sta_J6_bitCount_0f7a4 ml_X2_41 rfl (by decide) rfl (Nat.le_of_ble_eq_true rfl) dX2_add_1 (fun r h => co_J6_bitCount_0f7a4 h) (fun r1 => ?_)
  refine mv_iload_n 2 dX2_add_4 rfl rfl ?_
  refine mv_icmp_le 48 dX2_add_5 (by decide) ?_ ?_
  · refine mv_sub (lv' := []) [] rfl ?_
    exact vX2_add_48 hQ σ
  · refine mv_aload_n 0 dX2_add_8 rfl rfl ?_
    refine mg_X2_2 fl_X2_18 dX2_add_9 ?_
    refine mv_sipush (v := 192) dX2_add_12 sp_192 ?_
    refine mv_icmp_ge 48 dX2_add_15 (by decide) ?_ ?_
    · refine mv_sub (lv' := []) [] rfl ?_
      exact vX2_add_48 hQ σ
    · refine mv_aload_n 0 dX2_add_18 rfl rfl ?_
      refine mg_X2_0 fl_X2_11 dX2_add_19 ?_
      refine mv_aload_n 0 dX2_add_22 rfl rfl ?_
      refine mg_X2_2 fl_X2_18 dX2_add_23 ?_
      refine mv_iload_n 1 dX2_add_26 rfl rfl ?_
      refine mv_iast 192 rfl rfl dX2_add_27 (fun s2 => ?_)
      refine mv_aload_n 0 dX2_add_28 rfl rfl ?_
      refine mg_X2_1 fl_X2_15 dX2_add_29 ?_
      refine mv_aload_n 0 dX2_add_32 rfl rfl ?_
      refine mg_X2_2 fl_X2_18 dX2_add_33 ?_
      refine mv_iload_n 2 dX2_add_36 rfl rfl ?_
      refine mv_iast 192 rfl rfl dX2_add_37 (fun s3 => ?_)
      refine mv_aload_n 0 dX2_add_38 rfl rfl ?_
      refine mv_dup dX2_add_39 rfl ?_
      refine mg_X2_2 fl_X2_18 dX2_add_40 ?_
      refine mv_iconst (v := 1) dX2_add_43 ic_1 ?_
      refine mv_iadd dX2_add_44 ?_
      refine mp_X2_2 fl_X2_18 dX2_add_45 (fun s4 => ?_)
      refine mv_sub (lv' := []) [] rfl ?_
      exact vX2_add_48 hQ s4
theorem co_X2_add {l : Launch} {G : mt_G} {fu : Nat} {σ : mt_St} {a1 : Int32} {a2 : Int32} {r : Unit} {σf : mt_St}  (h : fX2_add fu σ a1 a2 = some (r, σf)) : mt_Con l G yX2_add cX2_add 3 none 1 [.ref (mt_adr G 39), .int a1, .int a2] σ none σf :=
  mt_con (by decide) (Nat.le_of_ble_eq_true rfl) (fun K hl hG hQ => by subst hl; subst hG; exact fun _ => vX2_add  hQ h)
theorem dX2_addOf_0 : decode cX2_addOf 0 = .ok (.aload_n 1, 1) := by decide +kernel
theorem dX2_addOf_1 : decode cX2_addOf 1 = .ok (.getfield 22, 3) := by decide +kernel
theorem dX2_addOf_4 : decode cX2_addOf 4 = .ok (.ifCond .ne 4, 3) := by decide +kernel
theorem dX2_addOf_7 : decode cX2_addOf 7 = .ok (.return_, 1) := by decide +kernel
theorem dX2_addOf_8 : decode cX2_addOf 8 = .ok (.aload_n 1, 1) := by decide +kernel
theorem dX2_addOf_9 : decode cX2_addOf 9 = .ok (.getfield 27, 3) := by decide +kernel
theorem dX2_addOf_12 : decode cX2_addOf 12 = .ok (.iload_n 2, 1) := by decide +kernel
theorem dX2_addOf_13 : decode cX2_addOf 13 = .ok (.iand, 1) := by decide +kernel
theorem dX2_addOf_14 : decode cX2_addOf 14 = .ok (.istore_n 3, 1) := by decide +kernel
theorem dX2_addOf_15 : decode cX2_addOf 15 = .ok (.aload_n 1, 1) := by decide +kernel
theorem dX2_addOf_16 : decode cX2_addOf 16 = .ok (.getfield 30, 3) := by decide +kernel
theorem dX2_addOf_19 : decode cX2_addOf 19 = .ok (.iconst 4, 1) := by decide +kernel
theorem dX2_addOf_20 : decode cX2_addOf 20 = .ok (.if_icmp .ne 13, 3) := by decide +kernel
theorem dX2_addOf_23 : decode cX2_addOf 23 = .ok (.aload_n 0, 1) := by decide +kernel
theorem dX2_addOf_24 : decode cX2_addOf 24 = .ok (.iload_n 3, 1) := by decide +kernel
theorem dX2_addOf_25 : decode cX2_addOf 25 = .ok (.sipush 2048, 3) := by decide +kernel
theorem dX2_addOf_28 : decode cX2_addOf 28 = .ok (.iand, 1) := by decide +kernel
theorem dX2_addOf_29 : decode cX2_addOf 29 = .ok (.iconst 0, 1) := by decide +kernel
theorem dX2_addOf_30 : decode cX2_addOf 30 = .ok (.invokevirtual 33, 3) := by decide +kernel
theorem dX2_addOf_33 : decode cX2_addOf 33 = .ok (.aload_n 0, 1) := by decide +kernel
theorem dX2_addOf_34 : decode cX2_addOf 34 = .ok (.iload_n 3, 1) := by decide +kernel
theorem dX2_addOf_35 : decode cX2_addOf 35 = .ok (.aload_n 1, 1) := by decide +kernel
theorem dX2_addOf_36 : decode cX2_addOf 36 = .ok (.iconst 0, 1) := by decide +kernel
theorem dX2_addOf_37 : decode cX2_addOf 37 = .ok (.invokevirtual 37, 3) := by decide +kernel
theorem dX2_addOf_40 : decode cX2_addOf 40 = .ok (.invokevirtual 33, 3) := by decide +kernel
theorem dX2_addOf_43 : decode cX2_addOf 43 = .ok (.return_, 1) := by decide +kernel
def bX2_addOf_33 (fu : Nat) (a1 : Nat) (σ : mt_St) (x3 : Int32) : Option (Unit × mt_St) :=
  mt_ask (fX3_bears fu σ a1 (0 : Int32)) fun r1 =>
  mt_call (fX2_add fu σ x3 r1) fun _ s3 =>
  some ((), s3)
set_option maxHeartbeats 4000000 in
set_option maxRecDepth 20000 in
theorem vX2_addOf_33 {K : mt_C} {fu : Nat} {a1 : Nat} {r : Unit} {σf : mt_St} (ha1 : mt_kd a1 = 3) (hQ : mt_R K none none σf) : ∀ (σ : mt_St) (x3 : Int32), mt_V K cX2_addOf RX2 4 2 σ 33 [(0, .ref (mt_adr (kG K) 39)), (1, .ref (mt_adr (kG K) a1)), (3, .int x3)] [] (bX2_addOf_33 fu a1 σ x3 = some (r, σf)) := by
  intro σ x3
  unfold bX2_addOf_33
  refine mv_aload_n 0 dX2_addOf_33 rfl rfl ?_
  refine mv_iload_n 2 dX2_addOf_34 rfl rfl ?_
  refine mv_aload_n 1 dX2_addOf_35 rfl rfl ?_
  refine mv_iconst (v := 0) dX2_addOf_36 ic_0 ?_
  refine mv_cVri (As := [.int (0 : Int32)]) (st := [.int x3, .ref (mt_adr (kG K) 39)]) cal_X3_bears ins_X3_bears ml_X2_37 ha1 (by decide) rfl rfl (by decide) rfl (Nat.le_of_ble_eq_true rfl) dX2_addOf_37 (fun r h => co_X3_bears ha1 h) (fun r1 => ?_)
  refine mv_cVwv (As := [.int x3, .int r1]) (st := []) cal_X2_add ins_X2_add ml_X2_33 rfl (by decide) rfl rfl (by decide) rfl (Nat.le_of_ble_eq_true rfl) dX2_addOf_40 (fun r s h => co_X2_add h) (fun r2 s3 => ?_)
  exact mv_vret hQ dX2_addOf_43
def fX2_addOf (fu : Nat) (σ : mt_St) (a1 : Nat) (a2 : Int32) : Option (Unit × mt_St) :=
  if (σ a1 4) = 0 then
    some ((), σ)
  else
    if (σ a1 0) = (4 : Int32) then
      mt_call (fX2_add fu σ (((σ a1 3) &&& a2) &&& (2048 : Int32)) (0 : Int32)) fun _ s2 =>
      bX2_addOf_33 fu a1 s2 ((σ a1 3) &&& a2)
    else
      bX2_addOf_33 fu a1 σ ((σ a1 3) &&& a2)
set_option maxHeartbeats 4000000 in
set_option maxRecDepth 20000 in
theorem vX2_addOf {K : mt_C} {fu : Nat} {σ : mt_St} {a1 : Nat} {a2 : Int32} {r : Unit} {σf : mt_St} (ha1 : mt_kd a1 = 3) (hQ : mt_R K none none σf) : mt_V K cX2_addOf RX2 4 2 σ 0 [(0, .ref (mt_adr (kG K) 39)), (1, .ref (mt_adr (kG K) a1)), (2, .int a2)] [] (fX2_addOf fu σ a1 a2 = some (r, σf)) := by
  unfold fX2_addOf
  refine mv_aload_n 1 dX2_addOf_0 rfl rfl ?_
  refine mg_X3_4 ha1 fl_X2_22 dX2_addOf_1 ?_
  refine mv_if_ne 8 dX2_addOf_4 (by decide) ?_ ?_
  · refine mv_aload_n 1 dX2_addOf_8 rfl rfl ?_
    refine mg_X3_3 ha1 fl_X2_27 dX2_addOf_9 ?_
    refine mv_iload_n 2 dX2_addOf_12 rfl rfl ?_
    refine mv_iand dX2_addOf_13 ?_
    refine mv_istore_n (lv' := [(0, .ref (mt_adr (kG K) 39)), (1, .ref (mt_adr (kG K) a1)), (3, .int ((σ a1 3) &&& a2))]) [1, 2, 0] dX2_addOf_14 rfl (by decide) rfl ?_
    refine mv_aload_n 1 dX2_addOf_15 rfl rfl ?_
    refine mg_X3_0 ha1 fl_X2_30 dX2_addOf_16 ?_
    refine mv_iconst (v := 4) dX2_addOf_19 ic_4 ?_
    refine mv_icmp_ne 33 dX2_addOf_20 (by decide) ?_ ?_
    · exact vX2_addOf_33 ha1 hQ σ ((σ a1 3) &&& a2)
    · refine mv_aload_n 0 dX2_addOf_23 rfl rfl ?_
      refine mv_iload_n 2 dX2_addOf_24 rfl rfl ?_
      refine mv_sipush (v := 2048) dX2_addOf_25 sp_2048 ?_
      refine mv_iand dX2_addOf_28 ?_
      refine mv_iconst (v := 0) dX2_addOf_29 ic_0 ?_
      refine mv_cVwv (As := [.int (((σ a1 3) &&& a2) &&& (2048 : Int32)), .int (0 : Int32)]) (st := []) cal_X2_add ins_X2_add ml_X2_33 rfl (by decide) rfl rfl (by decide) rfl (Nat.le_of_ble_eq_true rfl) dX2_addOf_30 (fun r s h => co_X2_add h) (fun r1 s2 => ?_)
      exact vX2_addOf_33 ha1 hQ s2 ((σ a1 3) &&& a2)
  · exact mv_vret hQ dX2_addOf_7
theorem co_X2_addOf {l : Launch} {G : mt_G} {fu : Nat} {σ : mt_St} {a1 : Nat} {a2 : Int32} {r : Unit} {σf : mt_St} (ha1 : mt_kd a1 = 3) (h : fX2_addOf fu σ a1 a2 = some (r, σf)) : mt_Con l G yX2_addOf cX2_addOf 4 none 2 [.ref (mt_adr G 39), .ref (mt_adr G a1), .int a2] σ none σf :=
  mt_con (by decide) (Nat.le_of_ble_eq_true rfl) (fun K hl hG hQ => by subst hl; subst hG; exact fun _ => vX2_addOf ha1 hQ h)
theorem dX2_areEasedBy_0 : decode cX2_areEasedBy 0 = .ok (.iconst 0, 1) := by decide +kernel
theorem dX2_areEasedBy_1 : decode cX2_areEasedBy 1 = .ok (.istore_n 2, 1) := by decide +kernel
theorem dX2_areEasedBy_2 : decode cX2_areEasedBy 2 = .ok (.iload_n 2, 1) := by decide +kernel
theorem dX2_areEasedBy_3 : decode cX2_areEasedBy 3 = .ok (.aload_n 0, 1) := by decide +kernel
theorem dX2_areEasedBy_4 : decode cX2_areEasedBy 4 = .ok (.getfield 18, 3) := by decide +kernel
theorem dX2_areEasedBy_7 : decode cX2_areEasedBy 7 = .ok (.if_icmp .ge 33, 3) := by decide +kernel
theorem dX2_areEasedBy_10 : decode cX2_areEasedBy 10 = .ok (.aload_n 0, 1) := by decide +kernel
theorem dX2_areEasedBy_11 : decode cX2_areEasedBy 11 = .ok (.getfield 11, 3) := by decide +kernel
theorem dX2_areEasedBy_14 : decode cX2_areEasedBy 14 = .ok (.iload_n 2, 1) := by decide +kernel
theorem dX2_areEasedBy_15 : decode cX2_areEasedBy 15 = .ok (.iaload, 1) := by decide +kernel
theorem dX2_areEasedBy_16 : decode cX2_areEasedBy 16 = .ok (.iload_n 1, 1) := by decide +kernel
theorem dX2_areEasedBy_17 : decode cX2_areEasedBy 17 = .ok (.iconst (-1), 1) := by decide +kernel
theorem dX2_areEasedBy_18 : decode cX2_areEasedBy 18 = .ok (.ixor, 1) := by decide +kernel
theorem dX2_areEasedBy_19 : decode cX2_areEasedBy 19 = .ok (.iand, 1) := by decide +kernel
theorem dX2_areEasedBy_20 : decode cX2_areEasedBy 20 = .ok (.invokestatic 41, 3) := by decide +kernel
theorem dX2_areEasedBy_23 : decode cX2_areEasedBy 23 = .ok (.aload_n 0, 1) := by decide +kernel
theorem dX2_areEasedBy_24 : decode cX2_areEasedBy 24 = .ok (.getfield 15, 3) := by decide +kernel
theorem dX2_areEasedBy_27 : decode cX2_areEasedBy 27 = .ok (.iload_n 2, 1) := by decide +kernel
theorem dX2_areEasedBy_28 : decode cX2_areEasedBy 28 = .ok (.iaload, 1) := by decide +kernel
theorem dX2_areEasedBy_29 : decode cX2_areEasedBy 29 = .ok (.if_icmp .le 5, 3) := by decide +kernel
theorem dX2_areEasedBy_32 : decode cX2_areEasedBy 32 = .ok (.iconst 0, 1) := by decide +kernel
theorem dX2_areEasedBy_33 : decode cX2_areEasedBy 33 = .ok (.ireturn, 1) := by decide +kernel
theorem dX2_areEasedBy_34 : decode cX2_areEasedBy 34 = .ok (.iinc 2 1, 3) := by decide +kernel
theorem dX2_areEasedBy_37 : decode cX2_areEasedBy 37 = .ok (.goto (-35), 3) := by decide +kernel
theorem dX2_areEasedBy_40 : decode cX2_areEasedBy 40 = .ok (.iconst 1, 1) := by decide +kernel
theorem dX2_areEasedBy_41 : decode cX2_areEasedBy 41 = .ok (.ireturn, 1) := by decide +kernel
def bX2_areEasedBy_2 (fu : Nat) (σ : mt_St) : Nat → Int32 → Int32 → Option Int32
  | 0, _, _ => none
  | n + 1, x1, x2 =>
    if (σ 39 2) ≤ x2 then
      some (1 : Int32)
    else
      mt_chk (mt_in x2 192) <|
      mt_ask (fJ6_bitCount_0f7a4 fu ((σ 40 (Int32.toNatClampNeg x2)) &&& (x1 ^^^ (-1 : Int32)))) fun r1 =>
      mt_chk (mt_in x2 192) <|
      if r1 ≤ (σ 41 (Int32.toNatClampNeg x2)) then
        bX2_areEasedBy_2 fu σ n x1 (x2 + 1)
      else
        some (0 : Int32)
set_option maxHeartbeats 4000000 in
set_option maxRecDepth 20000 in
theorem vX2_areEasedBy_2 {K : mt_C} {fu : Nat} {σ : mt_St} {r : Int32} (hQ : mt_R K (some .boolean) (some (.int r)) σ) : ∀ (n : Nat) (x1 : Int32) (x2 : Int32), mt_V K cX2_areEasedBy RX2 3 1 σ 2 [(0, .ref (mt_adr (kG K) 39)), (1, .int x1), (2, .int x2)] [] (bX2_areEasedBy_2 fu σ n x1 x2 = some r) := by
  intro n
  induction n with
  | zero => intro x1 x2; intro hP; unfold bX2_areEasedBy_2 at hP; cases hP
  | succ n ih =>
    intro x1 x2
    unfold bX2_areEasedBy_2
    refine mv_iload_n 2 dX2_areEasedBy_2 rfl rfl ?_
    refine mv_aload_n 0 dX2_areEasedBy_3 rfl rfl ?_
    refine mg_X2_2 fl_X2_18 dX2_areEasedBy_4 ?_
    refine mv_icmp_ge 40 dX2_areEasedBy_7 (by decide) ?_ ?_
    · refine mv_iconst (v := 1) dX2_areEasedBy_40 ic_1 ?_
      exact mv_zretr0 hQ (by decide) dX2_areEasedBy_41
    · refine mv_aload_n 0 dX2_areEasedBy_10 rfl rfl ?_
      refine mg_X2_0 fl_X2_11 dX2_areEasedBy_11 ?_
      refine mv_iload_n 2 dX2_areEasedBy_14 rfl rfl ?_
      refine mv_iald 192 rfl rfl dX2_areEasedBy_15 ?_
      refine mv_iload_n 1 dX2_areEasedBy_16 rfl rfl ?_
      refine mv_iconst (v := -1) dX2_areEasedBy_17 ic_m1 ?_
      refine mv_ixor dX2_areEasedBy_18 ?_
      refine mv_iand dX2_areEasedBy_19 ?_
      refine mv_cSri (As := [.int ((σ 40 (Int32.toNatClampNeg x2)) &&& (x1 ^^^ (-1 : Int32)))]) (st := []) cal_J6_bitCount_0f7a4 sta_J6_bitCount_0f7a4 ml_X2_41 rfl (by decide) rfl (Nat.le_of_ble_eq_true rfl) dX2_areEasedBy_20 (fun r h => co_J6_bitCount_0f7a4 h) (fun r1 => ?_)
      refine mv_aload_n 0 dX2_areEasedBy_23 rfl rfl ?_
      refine mg_X2_1 fl_X2_15 dX2_areEasedBy_24 ?_
      refine mv_iload_n 2 dX2_areEasedBy_27 rfl rfl ?_
      refine mv_iald 192 rfl rfl dX2_areEasedBy_28 ?_
      refine mv_icmp_le 34 dX2_areEasedBy_29 (by decide) ?_ ?_
      · refine mv_iinc (k0 := 2) (v := x2 + 1) (lv' := [(0, .ref (mt_adr (kG K) 39)), (1, .int x1), (2, .int (x2 + 1))]) [1, 2, 0] dX2_areEasedBy_34 rfl (mt_inc ic_1) (by decide) rfl ?_
        refine mv_goto 2 dX2_areEasedBy_37 (by decide) ?_
        exact ih x1 (x2 + 1)
      · refine mv_iconst (v := 0) dX2_areEasedBy_32 ic_0 ?_
        exact mv_zretr0 hQ (by decide) dX2_areEasedBy_33
def fX2_areEasedBy (fu : Nat) (σ : mt_St) (a1 : Int32) : Option Int32 :=
  bX2_areEasedBy_2 fu σ fu a1 (0 : Int32)
set_option maxHeartbeats 4000000 in
set_option maxRecDepth 20000 in
theorem vX2_areEasedBy {K : mt_C} {fu : Nat} {σ : mt_St} {a1 : Int32} {r : Int32} (hQ : mt_R K (some .boolean) (some (.int r)) σ) : mt_V K cX2_areEasedBy RX2 3 1 σ 0 [(0, .ref (mt_adr (kG K) 39)), (1, .int a1)] [] (fX2_areEasedBy fu σ a1 = some r) := by
  unfold fX2_areEasedBy
  refine mv_iconst (v := 0) dX2_areEasedBy_0 ic_0 ?_
  refine mv_istore_n (lv' := [(0, .ref (mt_adr (kG K) 39)), (1, .int a1), (2, .int (0 : Int32))]) [1, 2, 0] dX2_areEasedBy_1 rfl (by decide) rfl ?_
  exact vX2_areEasedBy_2 hQ fu a1 (0 : Int32)
theorem co_X2_areEasedBy {l : Launch} {G : mt_G} {fu : Nat} {σ : mt_St} {a1 : Int32} {r : Int32}  (h : fX2_areEasedBy fu σ a1 = some r) : mt_Con l G yX2_areEasedBy cX2_areEasedBy 3 (some .boolean) 1 [.ref (mt_adr G 39), .int a1] σ (some (.int r)) σ :=
  mt_con (by decide) (Nat.le_of_ble_eq_true rfl) (fun K hl hG hQ => by subst hl; subst hG; exact fun _ => vX2_areEasedBy  hQ h)
