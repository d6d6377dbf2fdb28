theorem dX5_finding_0 : decode cX5_finding 0 = .ok (.iload_n 1, 1) := by decide +kernel
theorem dX5_finding_1 : decode cX5_finding 1 = .ok (.bipush 6, 2) := by decide +kernel
theorem dX5_finding_3 : decode cX5_finding 3 = .ok (.invokestatic 67, 3) := by decide +kernel
theorem dX5_finding_6 : decode cX5_finding 6 = .ok (.ifCond .eq 13, 3) := by decide +kernel
theorem dX5_finding_9 : decode cX5_finding 9 = .ok (.aload_n 0, 1) := by decide +kernel
theorem dX5_finding_10 : decode cX5_finding 10 = .ok (.getfield 63, 3) := by decide +kernel
theorem dX5_finding_13 : decode cX5_finding 13 = .ok (.iload_n 1, 1) := by decide +kernel
theorem dX5_finding_14 : decode cX5_finding 14 = .ok (.dup2, 1) := by decide +kernel
theorem dX5_finding_15 : decode cX5_finding 15 = .ok (.iaload, 1) := by decide +kernel
theorem dX5_finding_16 : decode cX5_finding 16 = .ok (.iconst 1, 1) := by decide +kernel
theorem dX5_finding_17 : decode cX5_finding 17 = .ok (.iadd, 1) := by decide +kernel
theorem dX5_finding_18 : decode cX5_finding 18 = .ok (.iastore, 1) := by decide +kernel
theorem dX5_finding_19 : decode cX5_finding 19 = .ok (.ldc_w 295, 3) := by decide +kernel
theorem dX5_finding_22 : decode cX5_finding 22 = .ok (.iload_n 1, 1) := by decide +kernel
theorem dX5_finding_23 : decode cX5_finding 23 = .ok (.isub, 1) := by decide +kernel
theorem dX5_finding_24 : decode cX5_finding 24 = .ok (.ireturn, 1) := by decide +kernel
def bX5_finding_19 (fu : Nat) (σ : mt_St) (x1 : Int32) : Option (Int32 × mt_St) :=
  some (((-1000001 : Int32) - x1), σ)
set_option maxHeartbeats 4000000 in
set_option maxRecDepth 20000 in
theorem vX5_finding_19 {K : mt_C} {fu : Nat} {r : Int32} {σf : mt_St} (hQ : mt_R K (some .int) (some (.int r)) σf) : ∀ (σ : mt_St) (x1 : Int32), mt_V K cX5_finding RX5 2 1 σ 19 [(1, .int x1)] [] (bX5_finding_19 fu σ x1 = some (r, σf)) := by
  intro σ x1
  unfold bX5_finding_19
  refine mv_ldcw kc_X5_295 dX5_finding_19 ?_
  refine mv_iload_n 0 dX5_finding_22 rfl rfl ?_
  refine mv_isub dX5_finding_23 ?_
  exact mv_iret hQ dX5_finding_24
def fX5_finding (fu : Nat) (σ : mt_St) (a1 : Int32) : Option (Int32 × mt_St) :=
  mt_ask (fX5_isWithin fu a1 (6 : Int32)) fun r1 =>
  if r1 = 0 then
    bX5_finding_19 fu σ a1
  else
    mt_chk (mt_in a1 7) <|
    mt_chk (mt_in a1 7) <|
    mt_bnd (mt_up σ 55 (Int32.toNatClampNeg a1) ((σ 55 (Int32.toNatClampNeg a1)) + (1 : Int32))) fun s2 =>
    bX5_finding_19 fu s2 a1
set_option maxHeartbeats 4000000 in
set_option maxRecDepth 20000 in
theorem vX5_finding {K : mt_C} {fu : Nat} {σ : mt_St} {a1 : Int32} {r : Int32} {σf : mt_St} (hQ : mt_R K (some .int) (some (.int r)) σf) : mt_V K cX5_finding RX5 2 1 σ 0 [(0, .ref (mt_adr (kG K) 0)), (1, .int a1)] [] (fX5_finding fu σ a1 = some (r, σf)) := by
  unfold fX5_finding
  refine mv_iload_n 1 dX5_finding_0 rfl rfl ?_
  refine mv_bipush (v := 6) dX5_finding_1 bp_6 ?_
  refine mv_cSri (As := [.int a1, .int (6 : Int32)]) (st := []) cal_X5_isWithin sta_X5_isWithin ml_X5_67 rfl (by decide) rfl (Nat.le_of_ble_eq_true rfl) dX5_finding_3 (fun r h => co_X5_isWithin h) (fun r1 => ?_)
  refine mv_if_eq 19 dX5_finding_6 (by decide) ?_ ?_
  · refine mv_sub (lv' := [(1, .int a1)]) [1] rfl ?_
    exact vX5_finding_19 hQ σ a1
  · refine mv_aload_n 0 dX5_finding_9 rfl rfl ?_
    refine mg_X5_11 fl_X5_63 dX5_finding_10 ?_
    refine mv_iload_n 1 dX5_finding_13 rfl rfl ?_
    refine mv_dup2 dX5_finding_14 rfl rfl ?_
    refine mv_iald 7 rfl rfl dX5_finding_15 ?_
    refine mv_iconst (v := 1) dX5_finding_16 ic_1 ?_
    refine mv_iadd dX5_finding_17 ?_
    refine mv_iast 7 rfl rfl dX5_finding_18 (fun s2 => ?_)
    refine mv_sub (lv' := [(1, .int a1)]) [1] rfl ?_
    exact vX5_finding_19 hQ s2 a1
theorem co_X5_finding {l : Launch} {G : mt_G} {fu : Nat} {σ : mt_St} {a1 : Int32} {r : Int32} {σf : mt_St}  (h : fX5_finding fu σ a1 = some (r, σf)) : mt_Con l G yX5_finding cX5_finding 2 (some .int) 1 [.ref (mt_adr G 0), .int a1] σ (some (.int r)) σf :=
  mt_con (by decide) (Nat.le_of_ble_eq_true rfl) (fun K hl hG hQ => by subst hl; subst hG; exact fun _ => vX5_finding  hQ h)
theorem dX5_figuresOf_0 : decode cX5_figuresOf 0 = .ok (.iload_n 1, 1) := by decide +kernel
theorem dX5_figuresOf_1 : decode cX5_figuresOf 1 = .ok (.ifCond .ne 13, 3) := by decide +kernel
theorem dX5_figuresOf_4 : decode cX5_figuresOf 4 = .ok (.aload_n 0, 1) := by decide +kernel
theorem dX5_figuresOf_5 : decode cX5_figuresOf 5 = .ok (.getfield 10, 3) := by decide +kernel
theorem dX5_figuresOf_8 : decode cX5_figuresOf 8 = .ok (.getfield 78, 3) := by decide +kernel
theorem dX5_figuresOf_11 : decode cX5_figuresOf 11 = .ok (.goto 10, 3) := by decide +kernel
theorem dX5_figuresOf_14 : decode cX5_figuresOf 14 = .ok (.aload_n 0, 1) := by decide +kernel
theorem dX5_figuresOf_15 : decode cX5_figuresOf 15 = .ok (.getfield 10, 3) := by decide +kernel
theorem dX5_figuresOf_18 : decode cX5_figuresOf 18 = .ok (.getfield 82, 3) := by decide +kernel
theorem dX5_figuresOf_21 : decode cX5_figuresOf 21 = .ok (.ireturn, 1) := by decide +kernel
def bX5_figuresOf_21 (fu : Nat) (σ : mt_St) (y0 : Int32) : Option Int32 :=
  some y0
set_option maxHeartbeats 4000000 in
set_option maxRecDepth 20000 in
theorem vX5_figuresOf_21 {K : mt_C} {fu : Nat} {σ : mt_St} {r : Int32} (hQ : mt_R K (some .int) (some (.int r)) σ) : ∀ (y0 : Int32), mt_V K cX5_figuresOf RX5 2 0 σ 21 [] [.int y0] (bX5_figuresOf_21 fu σ y0 = some r) := by
  intro y0
  unfold bX5_figuresOf_21
  exact mv_iretr hQ dX5_figuresOf_21
def fX5_figuresOf (fu : Nat) (σ : mt_St) (a1 : Int32) : Option Int32 :=
  if a1 = 0 then
    bX5_figuresOf_21 fu σ (σ 1 0)
  else
    bX5_figuresOf_21 fu σ (σ 1 1)
set_option maxHeartbeats 4000000 in
set_option maxRecDepth 20000 in
theorem vX5_figuresOf {K : mt_C} {fu : Nat} {σ : mt_St} {a1 : Int32} {r : Int32} (hQ : mt_R K (some .int) (some (.int r)) σ) : mt_V K cX5_figuresOf RX5 2 0 σ 0 [(0, .ref (mt_adr (kG K) 0)), (1, .int a1)] [] (fX5_figuresOf fu σ a1 = some r) := by
  unfold fX5_figuresOf
  refine mv_iload_n 1 dX5_figuresOf_0 rfl rfl ?_
  refine mv_if_ne 14 dX5_figuresOf_1 (by decide) ?_ ?_
  · refine mv_aload_n 0 dX5_figuresOf_14 rfl rfl ?_
    refine mg_X5_0 fl_X5_10 dX5_figuresOf_15 ?_
    refine mg_X4_1 rfl fl_X5_82 dX5_figuresOf_18 ?_
    refine mv_sub (lv' := []) [] rfl ?_
    exact vX5_figuresOf_21 hQ (σ 1 1)
  · refine mv_aload_n 0 dX5_figuresOf_4 rfl rfl ?_
    refine mg_X5_0 fl_X5_10 dX5_figuresOf_5 ?_
    refine mg_X4_0 rfl fl_X5_78 dX5_figuresOf_8 ?_
    refine mv_goto 21 dX5_figuresOf_11 (by decide) ?_
    refine mv_sub (lv' := []) [] rfl ?_
    exact vX5_figuresOf_21 hQ (σ 1 0)
theorem co_X5_figuresOf {l : Launch} {G : mt_G} {fu : Nat} {σ : mt_St} {a1 : Int32} {r : Int32}  (h : fX5_figuresOf fu σ a1 = some r) : mt_Con l G yX5_figuresOf cX5_figuresOf 2 (some .int) 0 [.ref (mt_adr G 0), .int a1] σ (some (.int r)) σ :=
  mt_con (by decide) (Nat.le_of_ble_eq_true rfl) (fun K hl hG hQ => by subst hl; subst hG; exact fun _ => vX5_figuresOf  hQ h)
theorem dX5_set_0 : decode cX5_set 0 = .ok (.iload_n 1, 1) := by decide +kernel
theorem dX5_set_1 : decode cX5_set 1 = .ok (.iconst 1, 1) := by decide +kernel
theorem dX5_set_2 : decode cX5_set 2 = .ok (.invokestatic 67, 3) := by decide +kernel
theorem dX5_set_5 : decode cX5_set 5 = .ok (.ifCond .eq 13, 3) := by decide +kernel
theorem dX5_set_8 : decode cX5_set 8 = .ok (.iload_n 2, 1) := by decide +kernel
theorem dX5_set_9 : decode cX5_set 9 = .ok (.sipush 4095, 3) := by decide +kernel
theorem dX5_set_12 : decode cX5_set 12 = .ok (.invokestatic 67, 3) := by decide +kernel
theorem dX5_set_15 : decode cX5_set 15 = .ok (.ifCond .ne 9, 3) := by decide +kernel
theorem dX5_set_18 : decode cX5_set 18 = .ok (.aload_n 0, 1) := by decide +kernel
theorem dX5_set_19 : decode cX5_set 19 = .ok (.iconst 0, 1) := by decide +kernel
theorem dX5_set_20 : decode cX5_set 20 = .ok (.invokevirtual 71, 3) := by decide +kernel
theorem dX5_set_23 : decode cX5_set 23 = .ok (.ireturn, 1) := by decide +kernel
theorem dX5_set_24 : decode cX5_set 24 = .ok (.aload_n 0, 1) := by decide +kernel
theorem dX5_set_25 : decode cX5_set 25 = .ok (.iload_n 1, 1) := by decide +kernel
theorem dX5_set_26 : decode cX5_set 26 = .ok (.invokevirtual 75, 3) := by decide +kernel
theorem dX5_set_29 : decode cX5_set 29 = .ok (.istore_n 3, 1) := by decide +kernel
theorem dX5_set_30 : decode cX5_set 30 = .ok (.iload_n 1, 1) := by decide +kernel
theorem dX5_set_31 : decode cX5_set 31 = .ok (.ifCond .ne 14, 3) := by decide +kernel
theorem dX5_set_34 : decode cX5_set 34 = .ok (.aload_n 0, 1) := by decide +kernel
theorem dX5_set_35 : decode cX5_set 35 = .ok (.getfield 10, 3) := by decide +kernel
theorem dX5_set_38 : decode cX5_set 38 = .ok (.iload_n 2, 1) := by decide +kernel
theorem dX5_set_39 : decode cX5_set 39 = .ok (.putfield 78, 3) := by decide +kernel
theorem dX5_set_42 : decode cX5_set 42 = .ok (.goto 11, 3) := by decide +kernel
theorem dX5_set_45 : decode cX5_set 45 = .ok (.aload_n 0, 1) := by decide +kernel
theorem dX5_set_46 : decode cX5_set 46 = .ok (.getfield 10, 3) := by decide +kernel
theorem dX5_set_49 : decode cX5_set 49 = .ok (.iload_n 2, 1) := by decide +kernel
theorem dX5_set_50 : decode cX5_set 50 = .ok (.putfield 82, 3) := by decide +kernel
theorem dX5_set_53 : decode cX5_set 53 = .ok (.iload_n 3, 1) := by decide +kernel
theorem dX5_set_54 : decode cX5_set 54 = .ok (.ireturn, 1) := by decide +kernel
def bX5_set_53 (fu : Nat) (σ : mt_St) (x3 : Int32) : Option (Int32 × mt_St) :=
  some (x3, σ)
set_option maxHeartbeats 4000000 in
set_option maxRecDepth 20000 in
theorem vX5_set_53 {K : mt_C} {fu : Nat} {r : Int32} {σf : mt_St} (hQ : mt_R K (some .int) (some (.int r)) σf) : ∀ (σ : mt_St) (x3 : Int32), mt_V K cX5_set RX5 4 2 σ 53 [(3, .int x3)] [] (bX5_set_53 fu σ x3 = some (r, σf)) := by
  intro σ x3
  unfold bX5_set_53
  refine mv_iload_n 0 dX5_set_53 rfl rfl ?_
  exact mv_iret hQ dX5_set_54
def bX5_set_18 (fu : Nat) (σ : mt_St) : Option (Int32 × mt_St) :=
  mt_call (fX5_finding fu σ (0 : Int32)) fun r1 s2 =>
  some (r1, s2)
set_option maxHeartbeats 4000000 in
set_option maxRecDepth 20000 in
theorem vX5_set_18 {K : mt_C} {fu : Nat} {r : Int32} {σf : mt_St} (hQ : mt_R K (some .int) (some (.int r)) σf) : ∀ (σ : mt_St), mt_V K cX5_set RX5 4 2 σ 18 [(0, .ref (mt_adr (kG K) 0))] [] (bX5_set_18 fu σ = some (r, σf)) := by
  intro σ
  unfold bX5_set_18
  refine mv_aload_n 0 dX5_set_18 rfl rfl ?_
  refine mv_iconst (v := 0) dX5_set_19 ic_0 ?_
  refine mv_cVwi (As := [.int (0 : Int32)]) (st := []) cal_X5_finding ins_X5_finding ml_X5_71 rfl (by decide) rfl rfl (by decide) rfl (Nat.le_of_ble_eq_true rfl) dX5_set_20 (fun r s h => co_X5_finding h) (fun r1 s2 => ?_)
  exact mv_iret hQ dX5_set_23
def fX5_set (fu : Nat) (σ : mt_St) (a1 : Int32) (a2 : Int32) : Option (Int32 × mt_St) :=
  mt_ask (fX5_isWithin fu a1 (1 : Int32)) fun r1 =>
  if r1 = 0 then
    bX5_set_18 fu σ
  else
    mt_ask (fX5_isWithin fu a2 (4095 : Int32)) fun r2 =>
    if r2 = 0 then
      bX5_set_18 fu σ
    else
      mt_ask (fX5_figuresOf fu σ a1) fun r3 =>
      if a1 = 0 then
        mt_bnd (mt_up σ 1 0 a2) fun s5 =>
        bX5_set_53 fu s5 r3
      else
        mt_bnd (mt_up σ 1 1 a2) fun s4 =>
        bX5_set_53 fu s4 r3
set_option maxHeartbeats 4000000 in
set_option maxRecDepth 20000 in
theorem vX5_set {K : mt_C} {fu : Nat} {σ : mt_St} {a1 : Int32} {a2 : Int32} {r : Int32} {σf : mt_St} (hQ : mt_R K (some .int) (some (.int r)) σf) : mt_V K cX5_set RX5 4 2 σ 0 [(0, .ref (mt_adr (kG K) 0)), (1, .int a1), (2, .int a2)] [] (fX5_set fu σ a1 a2 = some (r, σf)) := by
  unfold fX5_set
  refine mv_iload_n 1 dX5_set_0 rfl rfl ?_
  refine mv_iconst (v := 1) dX5_set_1 ic_1 ?_
  refine mv_cSri (As := [.int a1, .int (1 : Int32)]) (st := []) cal_X5_isWithin sta_X5_isWithin ml_X5_67 rfl (by decide) rfl (Nat.le_of_ble_eq_true rfl) dX5_set_2 (fun r h => co_X5_isWithin h) (fun r1 => ?_)
  refine mv_if_eq 18 dX5_set_5 (by decide) ?_ ?_
  · refine mv_sub (lv' := [(0, .ref (mt_adr (kG K) 0))]) [0] rfl ?_
    exact vX5_set_18 hQ σ
  · refine mv_iload_n 2 dX5_set_8 rfl rfl ?_
    refine mv_sipush (v := 4095) dX5_set_9 sp_4095 ?_
    refine mv_cSri (As := [.int a2, .int (4095 : Int32)]) (st := []) cal_X5_isWithin sta_X5_isWithin ml_X5_67 rfl (by decide) rfl (Nat.le_of_ble_eq_true rfl) dX5_set_12 (fun r h => co_X5_isWithin h) (fun r2 => ?_)
    refine mv_if_ne 24 dX5_set_15 (by decide) ?_ ?_
    · refine mv_aload_n 0 dX5_set_24 rfl rfl ?_
      refine mv_iload_n 1 dX5_set_25 rfl rfl ?_
      refine mv_cVri (As := [.int a1]) (st := []) cal_X5_figuresOf ins_X5_figuresOf ml_X5_75 rfl (by decide) rfl rfl (by decide) rfl (Nat.le_of_ble_eq_true rfl) dX5_set_26 (fun r h => co_X5_figuresOf h) (fun r3 => ?_)
      refine mv_istore_n (lv' := [(0, .ref (mt_adr (kG K) 0)), (1, .int a1), (2, .int a2), (3, .int r3)]) [1, 2, 3, 0] dX5_set_29 rfl (by decide) rfl ?_
      refine mv_iload_n 1 dX5_set_30 rfl rfl ?_
      refine mv_if_ne 45 dX5_set_31 (by decide) ?_ ?_
      · refine mv_aload_n 0 dX5_set_45 rfl rfl ?_
        refine mg_X5_0 fl_X5_10 dX5_set_46 ?_
        refine mv_iload_n 2 dX5_set_49 rfl rfl ?_
        refine mp_X4_1 rfl fl_X5_82 dX5_set_50 (fun s4 => ?_)
        refine mv_sub (lv' := [(3, .int r3)]) [3] rfl ?_
        exact vX5_set_53 hQ s4 r3
      · refine mv_aload_n 0 dX5_set_34 rfl rfl ?_
        refine mg_X5_0 fl_X5_10 dX5_set_35 ?_
        refine mv_iload_n 2 dX5_set_38 rfl rfl ?_
        refine mp_X4_0 rfl fl_X5_78 dX5_set_39 (fun s5 => ?_)
        refine mv_goto 53 dX5_set_42 (by decide) ?_
        refine mv_sub (lv' := [(3, .int r3)]) [3] rfl ?_
        exact vX5_set_53 hQ s5 r3
    · refine mv_sub (lv' := [(0, .ref (mt_adr (kG K) 0))]) [0] rfl ?_
      exact vX5_set_18 hQ σ
theorem co_X5_set {l : Launch} {G : mt_G} {fu : Nat} {σ : mt_St} {a1 : Int32} {a2 : Int32} {r : Int32} {σf : mt_St}  (h : fX5_set fu σ a1 a2 = some (r, σf)) : mt_Con l G yX5_set cX5_set 4 (some .int) 2 [.ref (mt_adr G 0), .int a1, .int a2] σ (some (.int r)) σf :=
  mt_con (by decide) (Nat.le_of_ble_eq_true rfl) (fun K hl hG hQ => by subst hl; subst hG; exact fun _ => vX5_set  hQ h)
theorem dX5_seen_0 : decode cX5_seen 0 = .ok (.iload_n 1, 1) := by decide +kernel
theorem dX5_seen_1 : decode cX5_seen 1 = .ok (.iconst 1, 1) := by decide +kernel
theorem dX5_seen_2 : decode cX5_seen 2 = .ok (.invokestatic 67, 3) := by decide +kernel
theorem dX5_seen_5 : decode cX5_seen 5 = .ok (.ifCond .eq 11, 3) := by decide +kernel
theorem dX5_seen_8 : decode cX5_seen 8 = .ok (.aload_n 0, 1) := by decide +kernel
theorem dX5_seen_9 : decode cX5_seen 9 = .ok (.iload_n 1, 1) := by decide +kernel
theorem dX5_seen_10 : decode cX5_seen 10 = .ok (.invokevirtual 75, 3) := by decide +kernel
theorem dX5_seen_13 : decode cX5_seen 13 = .ok (.goto 8, 3) := by decide +kernel
theorem dX5_seen_16 : decode cX5_seen 16 = .ok (.aload_n 0, 1) := by decide +kernel
theorem dX5_seen_17 : decode cX5_seen 17 = .ok (.iconst 0, 1) := by decide +kernel
theorem dX5_seen_18 : decode cX5_seen 18 = .ok (.invokevirtual 71, 3) := by decide +kernel
theorem dX5_seen_21 : decode cX5_seen 21 = .ok (.ireturn, 1) := by decide +kernel
def bX5_seen_21 (fu : Nat) (σ : mt_St) (y0 : Int32) : Option (Int32 × mt_St) :=
  some (y0, σ)
set_option maxHeartbeats 4000000 in
set_option maxRecDepth 20000 in
theorem vX5_seen_21 {K : mt_C} {fu : Nat} {r : Int32} {σf : mt_St} (hQ : mt_R K (some .int) (some (.int r)) σf) : ∀ (σ : mt_St) (y0 : Int32), mt_V K cX5_seen RX5 2 2 σ 21 [] [.int y0] (bX5_seen_21 fu σ y0 = some (r, σf)) := by
  intro σ y0
  unfold bX5_seen_21
  exact mv_iret hQ dX5_seen_21
def fX5_seen (fu : Nat) (σ : mt_St) (a1 : Int32) : Option (Int32 × mt_St) :=
  mt_ask (fX5_isWithin fu a1 (1 : Int32)) fun r1 =>
  if r1 = 0 then
    mt_call (fX5_finding fu σ (0 : Int32)) fun r2 s3 =>
    bX5_seen_21 fu s3 r2
  else
    mt_ask (fX5_figuresOf fu σ a1) fun r4 =>
    bX5_seen_21 fu σ r4
set_option maxHeartbeats 4000000 in
set_option maxRecDepth 20000 in
theorem vX5_seen {K : mt_C} {fu : Nat} {σ : mt_St} {a1 : Int32} {r : Int32} {σf : mt_St} (hQ : mt_R K (some .int) (some (.int r)) σf) : mt_V K cX5_seen RX5 2 2 σ 0 [(0, .ref (mt_adr (kG K) 0)), (1, .int a1)] [] (fX5_seen fu σ a1 = some (r, σf)) := by
  unfold fX5_seen
  refine mv_iload_n 1 dX5_seen_0 rfl rfl ?_
  refine mv_iconst (v := 1) dX5_seen_1 ic_1 ?_
  refine mv_cSri (As := [.int a1, .int (1 : Int32)]) (st := []) cal_X5_isWithin sta_X5_isWithin ml_X5_67 rfl (by decide) rfl (Nat.le_of_ble_eq_true rfl) dX5_seen_2 (fun r h => co_X5_isWithin h) (fun r1 => ?_)
  refine mv_if_eq 16 dX5_seen_5 (by decide) ?_ ?_
  · refine mv_aload_n 0 dX5_seen_16 rfl rfl ?_
    refine mv_iconst (v := 0) dX5_seen_17 ic_0 ?_
    refine mv_cVwi (As := [.int (0 : Int32)]) (st := []) cal_X5_finding ins_X5_finding ml_X5_71 rfl (by decide) rfl rfl (by decide) rfl (Nat.le_of_ble_eq_true rfl) dX5_seen_18 (fun r s h => co_X5_finding h) (fun r2 s3 => ?_)
    refine mv_sub (lv' := []) [] rfl ?_
    exact vX5_seen_21 hQ s3 r2
  · refine mv_aload_n 0 dX5_seen_8 rfl rfl ?_
    refine mv_iload_n 1 dX5_seen_9 rfl rfl ?_
    refine mv_cVri (As := [.int a1]) (st := []) cal_X5_figuresOf ins_X5_figuresOf ml_X5_75 rfl (by decide) rfl rfl (by decide) rfl (Nat.le_of_ble_eq_true rfl) dX5_seen_10 (fun r h => co_X5_figuresOf h) (fun r4 => ?_)
    refine mv_goto 21 dX5_seen_13 (by decide) ?_
    refine mv_sub (lv' := []) [] rfl ?_
    exact vX5_seen_21 hQ σ r4
theorem co_X5_seen {l : Launch} {G : mt_G} {fu : Nat} {σ : mt_St} {a1 : Int32} {r : Int32} {σf : mt_St}  (h : fX5_seen fu σ a1 = some (r, σf)) : mt_Con l G yX5_seen cX5_seen 2 (some .int) 2 [.ref (mt_adr G 0), .int a1] σ (some (.int r)) σf :=
  mt_con (by decide) (Nat.le_of_ble_eq_true rfl) (fun K hl hG hQ => by subst hl; subst hG; exact fun _ => vX5_seen  hQ h)
theorem dX5_event_0 : decode cX5_event 0 = .ok (.iload_n 1, 1) := by decide +kernel
theorem dX5_event_1 : decode cX5_event 1 = .ok (.iconst 5, 1) := by decide +kernel
theorem dX5_event_2 : decode cX5_event 2 = .ok (.invokestatic 67, 3) := by decide +kernel
theorem dX5_event_5 : decode cX5_event 5 = .ok (.ifCond .eq 12, 3) := by decide +kernel
theorem dX5_event_8 : decode cX5_event 8 = .ok (.iload_n 2, 1) := by decide +kernel
theorem dX5_event_9 : decode cX5_event 9 = .ok (.bipush 12, 2) := by decide +kernel
theorem dX5_event_11 : decode cX5_event 11 = .ok (.invokestatic 67, 3) := by decide +kernel
theorem dX5_event_14 : decode cX5_event 14 = .ok (.ifCond .ne 9, 3) := by decide +kernel
theorem dX5_event_17 : decode cX5_event 17 = .ok (.aload_n 0, 1) := by decide +kernel
theorem dX5_event_18 : decode cX5_event 18 = .ok (.iconst 0, 1) := by decide +kernel
theorem dX5_event_19 : decode cX5_event 19 = .ok (.invokevirtual 71, 3) := by decide +kernel
theorem dX5_event_22 : decode cX5_event 22 = .ok (.ireturn, 1) := by decide +kernel
theorem dX5_event_23 : decode cX5_event 23 = .ok (.aload_n 0, 1) := by decide +kernel
theorem dX5_event_24 : decode cX5_event 24 = .ok (.getfield 10, 3) := by decide +kernel
theorem dX5_event_27 : decode cX5_event 27 = .ok (.getfield 85, 3) := by decide +kernel
theorem dX5_event_30 : decode cX5_event 30 = .ok (.iload_n 1, 1) := by decide +kernel
theorem dX5_event_31 : decode cX5_event 31 = .ok (.iaload, 1) := by decide +kernel
theorem dX5_event_32 : decode cX5_event 32 = .ok (.istore_n 3, 1) := by decide +kernel
theorem dX5_event_33 : decode cX5_event 33 = .ok (.aload_n 0, 1) := by decide +kernel
theorem dX5_event_34 : decode cX5_event 34 = .ok (.getfield 10, 3) := by decide +kernel
theorem dX5_event_37 : decode cX5_event 37 = .ok (.getfield 85, 3) := by decide +kernel
theorem dX5_event_40 : decode cX5_event 40 = .ok (.iload_n 1, 1) := by decide +kernel
theorem dX5_event_41 : decode cX5_event 41 = .ok (.iload_n 2, 1) := by decide +kernel
theorem dX5_event_42 : decode cX5_event 42 = .ok (.iastore, 1) := by decide +kernel
theorem dX5_event_43 : decode cX5_event 43 = .ok (.iload_n 3, 1) := by decide +kernel
theorem dX5_event_44 : decode cX5_event 44 = .ok (.ireturn, 1) := by decide +kernel
def bX5_event_17 (fu : Nat) (σ : mt_St) : Option (Int32 × mt_St) :=
  mt_call (fX5_finding fu σ (0 : Int32)) fun r1 s2 =>
  some (r1, s2)
set_option maxHeartbeats 4000000 in
set_option maxRecDepth 20000 in
theorem vX5_event_17 {K : mt_C} {fu : Nat} {r : Int32} {σf : mt_St} (hQ : mt_R K (some .int) (some (.int r)) σf) : ∀ (σ : mt_St), mt_V K cX5_event RX5 4 2 σ 17 [(0, .ref (mt_adr (kG K) 0))] [] (bX5_event_17 fu σ = some (r, σf)) := by
  intro σ
  unfold bX5_event_17
  refine mv_aload_n 0 dX5_event_17 rfl rfl ?_
  refine mv_iconst (v := 0) dX5_event_18 ic_0 ?_
  refine mv_cVwi (As := [.int (0 : Int32)]) (st := []) cal_X5_finding ins_X5_finding ml_X5_71 rfl (by decide) rfl rfl (by decide) rfl (Nat.le_of_ble_eq_true rfl) dX5_event_19 (fun r s h => co_X5_finding h) (fun r1 s2 => ?_)
  exact mv_iret hQ dX5_event_22
def fX5_event (fu : Nat) (σ : mt_St) (a1 : Int32) (a2 : Int32) : Option (Int32 × mt_St) :=
  mt_ask (fX5_isWithin fu a1 (5 : Int32)) fun r1 =>
  if r1 = 0 then
    bX5_event_17 fu σ
  else
    mt_ask (fX5_isWithin fu a2 (12 : Int32)) fun r2 =>
    if r2 = 0 then
      bX5_event_17 fu σ
    else
      mt_chk (mt_in a1 6) <|
      mt_chk (mt_in a1 6) <|
      mt_bnd (mt_up σ (1 + 1) (Int32.toNatClampNeg a1) a2) fun s3 =>
      some ((σ (1 + 1) (Int32.toNatClampNeg a1)), s3)
set_option maxHeartbeats 4000000 in
set_option maxRecDepth 20000 in
theorem vX5_event {K : mt_C} {fu : Nat} {σ : mt_St} {a1 : Int32} {a2 : Int32} {r : Int32} {σf : mt_St} (hQ : mt_R K (some .int) (some (.int r)) σf) : mt_V K cX5_event RX5 4 2 σ 0 [(0, .ref (mt_adr (kG K) 0)), (1, .int a1), (2, .int a2)] [] (fX5_event fu σ a1 a2 = some (r, σf)) := by
  unfold fX5_event
  refine mv_iload_n 1 dX5_event_0 rfl rfl ?_
  refine mv_iconst (v := 5) dX5_event_1 ic_5 ?_
  refine mv_cSri (As := [.int a1, .int (5 : Int32)]) (st := []) cal_X5_isWithin sta_X5_isWithin ml_X5_67 rfl (by decide) rfl (Nat.le_of_ble_eq_true rfl) dX5_event_2 (fun r h => co_X5_isWithin h) (fun r1 => ?_)
  refine mv_if_eq 17 dX5_event_5 (by decide) ?_ ?_
  · refine mv_sub (lv' := [(0, .ref (mt_adr (kG K) 0))]) [0] rfl ?_
    exact vX5_event_17 hQ σ
  · refine mv_iload_n 2 dX5_event_8 rfl rfl ?_
    refine mv_bipush (v := 12) dX5_event_9 bp_12 ?_
    refine mv_cSri (As := [.int a2, .int (12 : Int32)]) (st := []) cal_X5_isWithin sta_X5_isWithin ml_X5_67 rfl (by decide) rfl (Nat.le_of_ble_eq_true rfl) dX5_event_11 (fun r h => co_X5_isWithin h) (fun r2 => ?_)
    refine mv_if_ne 23 dX5_event_14 (by decide) ?_ ?_
    · refine mv_aload_n 0 dX5_event_23 rfl rfl ?_
      refine mg_X5_0 fl_X5_10 dX5_event_24 ?_
      refine mg_X4_2 rfl fl_X5_85 dX5_event_27 ?_
      refine mv_iload_n 1 dX5_event_30 rfl rfl ?_
      refine mv_iald 6 (kd_w1 rfl) (ln_w1 rfl) dX5_event_31 ?_
      refine mv_istore_n (lv' := [(0, .ref (mt_adr (kG K) 0)), (1, .int a1), (2, .int a2), (3, .int (σ (1 + 1) (Int32.toNatClampNeg a1)))]) [1, 2, 3, 0] dX5_event_32 rfl (by decide) rfl ?_
      refine mv_aload_n 0 dX5_event_33 rfl rfl ?_
      refine mg_X5_0 fl_X5_10 dX5_event_34 ?_
      refine mg_X4_2 rfl fl_X5_85 dX5_event_37 ?_
      refine mv_iload_n 1 dX5_event_40 rfl rfl ?_
      refine mv_iload_n 2 dX5_event_41 rfl rfl ?_
      refine mv_iast 6 (kd_w1 rfl) (ln_w1 rfl) dX5_event_42 (fun s3 => ?_)
      refine mv_iload_n 3 dX5_event_43 rfl rfl ?_
      exact mv_iret hQ dX5_event_44
    · refine mv_sub (lv' := [(0, .ref (mt_adr (kG K) 0))]) [0] rfl ?_
      exact vX5_event_17 hQ σ
theorem co_X5_event {l : Launch} {G : mt_G} {fu : Nat} {σ : mt_St} {a1 : Int32} {a2 : Int32} {r : Int32} {σf : mt_St}  (h : fX5_event fu σ a1 a2 = some (r, σf)) : mt_Con l G yX5_event cX5_event 4 (some .int) 2 [.ref (mt_adr G 0), .int a1, .int a2] σ (some (.int r)) σf :=
  mt_con (by decide) (Nat.le_of_ble_eq_true rfl) (fun K hl hG hQ => by subst hl; subst hG; exact fun _ => vX5_event  hQ h)
theorem dX5_listed_0 : decode cX5_listed 0 = .ok (.iload_n 1, 1) := by decide +kernel
theorem dX5_listed_1 : decode cX5_listed 1 = .ok (.iconst 5, 1) := by decide +kernel
theorem dX5_listed_2 : decode cX5_listed 2 = .ok (.invokestatic 67, 3) := by decide +kernel
theorem dX5_listed_5 : decode cX5_listed 5 = .ok (.ifCond .eq 15, 3) := by decide +kernel
theorem dX5_listed_8 : decode cX5_listed 8 = .ok (.aload_n 0, 1) := by decide +kernel
theorem dX5_listed_9 : decode cX5_listed 9 = .ok (.getfield 10, 3) := by decide +kernel
theorem dX5_listed_12 : decode cX5_listed 12 = .ok (.getfield 85, 3) := by decide +kernel
theorem dX5_listed_15 : decode cX5_listed 15 = .ok (.iload_n 1, 1) := by decide +kernel
theorem dX5_listed_16 : decode cX5_listed 16 = .ok (.iaload, 1) := by decide +kernel
theorem dX5_listed_17 : decode cX5_listed 17 = .ok (.goto 8, 3) := by decide +kernel
theorem dX5_listed_20 : decode cX5_listed 20 = .ok (.aload_n 0, 1) := by decide +kernel
theorem dX5_listed_21 : decode cX5_listed 21 = .ok (.iconst 0, 1) := by decide +kernel
theorem dX5_listed_22 : decode cX5_listed 22 = .ok (.invokevirtual 71, 3) := by decide +kernel
theorem dX5_listed_25 : decode cX5_listed 25 = .ok (.ireturn, 1) := by decide +kernel
def bX5_listed_25 (fu : Nat) (σ : mt_St) (y0 : Int32) : Option (Int32 × mt_St) :=
  some (y0, σ)
set_option maxHeartbeats 4000000 in
set_option maxRecDepth 20000 in
theorem vX5_listed_25 {K : mt_C} {fu : Nat} {r : Int32} {σf : mt_St} (hQ : mt_R K (some .int) (some (.int r)) σf) : ∀ (σ : mt_St) (y0 : Int32), mt_V K cX5_listed RX5 2 2 σ 25 [] [.int y0] (bX5_listed_25 fu σ y0 = some (r, σf)) := by
  intro σ y0
  unfold bX5_listed_25
  exact mv_iret hQ dX5_listed_25
def fX5_listed (fu : Nat) (σ : mt_St) (a1 : Int32) : Option (Int32 × mt_St) :=
  mt_ask (fX5_isWithin fu a1 (5 : Int32)) fun r1 =>
  if r1 = 0 then
    mt_call (fX5_finding fu σ (0 : Int32)) fun r2 s3 =>
    bX5_listed_25 fu s3 r2
  else
    mt_chk (mt_in a1 6) <|
    bX5_listed_25 fu σ (σ (1 + 1) (Int32.toNatClampNeg a1))
set_option maxHeartbeats 4000000 in
set_option maxRecDepth 20000 in
theorem vX5_listed {K : mt_C} {fu : Nat} {σ : mt_St} {a1 : Int32} {r : Int32} {σf : mt_St} (hQ : mt_R K (some .int) (some (.int r)) σf) : mt_V K cX5_listed RX5 2 2 σ 0 [(0, .ref (mt_adr (kG K) 0)), (1, .int a1)] [] (fX5_listed fu σ a1 = some (r, σf)) := by
  unfold fX5_listed
  refine mv_iload_n 1 dX5_listed_0 rfl rfl ?_
  refine mv_iconst (v := 5) dX5_listed_1 ic_5 ?_
  refine mv_cSri (As := [.int a1, .int (5 : Int32)]) (st := []) cal_X5_isWithin sta_X5_isWithin ml_X5_67 rfl (by decide) rfl (Nat.le_of_ble_eq_true rfl) dX5_listed_2 (fun r h => co_X5_isWithin h) (fun r1 => ?_)
  refine mv_if_eq 20 dX5_listed_5 (by decide) ?_ ?_
  · refine mv_aload_n 0 dX5_listed_20 rfl rfl ?_
    refine mv_iconst (v := 0) dX5_listed_21 ic_0 ?_
    refine mv_cVwi (As := [.int (0 : Int32)]) (st := []) cal_X5_finding ins_X5_finding ml_X5_71 rfl (by decide) rfl rfl (by decide) rfl (Nat.le_of_ble_eq_true rfl) dX5_listed_22 (fun r s h => co_X5_finding h) (fun r2 s3 => ?_)
    refine mv_sub (lv' := []) [] rfl ?_
    exact vX5_listed_25 hQ s3 r2
  · refine mv_aload_n 0 dX5_listed_8 rfl rfl ?_
    refine mg_X5_0 fl_X5_10 dX5_listed_9 ?_
    refine mg_X4_2 rfl fl_X5_85 dX5_listed_12 ?_
    refine mv_iload_n 1 dX5_listed_15 rfl rfl ?_
    refine mv_iald 6 (kd_w1 rfl) (ln_w1 rfl) dX5_listed_16 ?_
    refine mv_goto 25 dX5_listed_17 (by decide) ?_
    refine mv_sub (lv' := []) [] rfl ?_
    exact vX5_listed_25 hQ σ (σ (1 + 1) (Int32.toNatClampNeg a1))
theorem co_X5_listed {l : Launch} {G : mt_G} {fu : Nat} {σ : mt_St} {a1 : Int32} {r : Int32} {σf : mt_St}  (h : fX5_listed fu σ a1 = some (r, σf)) : mt_Con l G yX5_listed cX5_listed 2 (some .int) 2 [.ref (mt_adr G 0), .int a1] σ (some (.int r)) σf :=
  mt_con (by decide) (Nat.le_of_ble_eq_true rfl) (fun K hl hG hQ => by subst hl; subst hG; exact fun _ => vX5_listed  hQ h)
theorem dX5_treaty_0 : decode cX5_treaty 0 = .ok (.iload_n 1, 1) := by decide +kernel
theorem dX5_treaty_1 : decode cX5_treaty 1 = .ok (.bipush 6, 2) := by decide +kernel
theorem dX5_treaty_3 : decode cX5_treaty 3 = .ok (.invokestatic 67, 3) := by decide +kernel
theorem dX5_treaty_6 : decode cX5_treaty 6 = .ok (.ifCond .eq 11, 3) := by decide +kernel
theorem dX5_treaty_9 : decode cX5_treaty 9 = .ok (.iload_n 2, 1) := by decide +kernel
theorem dX5_treaty_10 : decode cX5_treaty 10 = .ok (.iload_n 3, 1) := by decide +kernel
theorem dX5_treaty_11 : decode cX5_treaty 11 = .ok (.invokestatic 88, 3) := by decide +kernel
theorem dX5_treaty_14 : decode cX5_treaty 14 = .ok (.ifCond .ne 9, 3) := by decide +kernel
theorem dX5_treaty_17 : decode cX5_treaty 17 = .ok (.aload_n 0, 1) := by decide +kernel
theorem dX5_treaty_18 : decode cX5_treaty 18 = .ok (.iconst 0, 1) := by decide +kernel
theorem dX5_treaty_19 : decode cX5_treaty 19 = .ok (.invokevirtual 71, 3) := by decide +kernel
theorem dX5_treaty_22 : decode cX5_treaty 22 = .ok (.ireturn, 1) := by decide +kernel
theorem dX5_treaty_23 : decode cX5_treaty 23 = .ok (.aload_n 0, 1) := by decide +kernel
theorem dX5_treaty_24 : decode cX5_treaty 24 = .ok (.getfield 10, 3) := by decide +kernel
theorem dX5_treaty_27 : decode cX5_treaty 27 = .ok (.getfield 91, 3) := by decide +kernel
theorem dX5_treaty_30 : decode cX5_treaty 30 = .ok (.bipush 8, 2) := by decide +kernel
theorem dX5_treaty_32 : decode cX5_treaty 32 = .ok (.if_icmp .lt 9, 3) := by decide +kernel
theorem dX5_treaty_35 : decode cX5_treaty 35 = .ok (.aload_n 0, 1) := by decide +kernel
theorem dX5_treaty_36 : decode cX5_treaty 36 = .ok (.iconst 1, 1) := by decide +kernel
theorem dX5_treaty_37 : decode cX5_treaty 37 = .ok (.invokevirtual 71, 3) := by decide +kernel
theorem dX5_treaty_40 : decode cX5_treaty 40 = .ok (.ireturn, 1) := by decide +kernel
theorem dX5_treaty_41 : decode cX5_treaty 41 = .ok (.aload_n 0, 1) := by decide +kernel
theorem dX5_treaty_42 : decode cX5_treaty 42 = .ok (.getfield 10, 3) := by decide +kernel
theorem dX5_treaty_45 : decode cX5_treaty 45 = .ok (.iload_n 1, 1) := by decide +kernel
theorem dX5_treaty_46 : decode cX5_treaty 46 = .ok (.iload_n 2, 1) := by decide +kernel
theorem dX5_treaty_47 : decode cX5_treaty 47 = .ok (.iload_n 3, 1) := by decide +kernel
theorem dX5_treaty_48 : decode cX5_treaty 48 = .ok (.invokevirtual 94, 3) := by decide +kernel
theorem dX5_treaty_51 : decode cX5_treaty 51 = .ok (.aload_n 0, 1) := by decide +kernel
theorem dX5_treaty_52 : decode cX5_treaty 52 = .ok (.getfield 10, 3) := by decide +kernel
theorem dX5_treaty_55 : decode cX5_treaty 55 = .ok (.getfield 91, 3) := by decide +kernel
theorem dX5_treaty_58 : decode cX5_treaty 58 = .ok (.iconst 1, 1) := by decide +kernel
theorem dX5_treaty_59 : decode cX5_treaty 59 = .ok (.isub, 1) := by decide +kernel
theorem dX5_treaty_60 : decode cX5_treaty 60 = .ok (.ireturn, 1) := by decide +kernel
def bX5_treaty_17 (fu : Nat) (σ : mt_St) : Option (Int32 × mt_St) :=
  mt_call (fX5_finding fu σ (0 : Int32)) fun r1 s2 =>
  some (r1, s2)
set_option maxHeartbeats 4000000 in
set_option maxRecDepth 20000 in
theorem vX5_treaty_17 {K : mt_C} {fu : Nat} {r : Int32} {σf : mt_St} (hQ : mt_R K (some .int) (some (.int r)) σf) : ∀ (σ : mt_St), mt_V K cX5_treaty RX5 4 2 σ 17 [(0, .ref (mt_adr (kG K) 0))] [] (bX5_treaty_17 fu σ = some (r, σf)) := by
  intro σ
  unfold bX5_treaty_17
  refine mv_aload_n 0 dX5_treaty_17 rfl rfl ?_
  refine mv_iconst (v := 0) dX5_treaty_18 ic_0 ?_
  refine mv_cVwi (As := [.int (0 : Int32)]) (st := []) cal_X5_finding ins_X5_finding ml_X5_71 rfl (by decide) rfl rfl (by decide) rfl (Nat.le_of_ble_eq_true rfl) dX5_treaty_19 (fun r s h => co_X5_finding h) (fun r1 s2 => ?_)
  exact mv_iret hQ dX5_treaty_22
def fX5_treaty (fu : Nat) (σ : mt_St) (a1 : Int32) (a2 : Int32) (a3 : Int32) : Option (Int32 × mt_St) :=
  mt_ask (fX5_isWithin fu a1 (6 : Int32)) fun r1 =>
  if r1 = 0 then
    bX5_treaty_17 fu σ
  else
    mt_ask (fX5_isPair fu a2 a3) fun r2 =>
    if r2 = 0 then
      bX5_treaty_17 fu σ
    else
      if (σ 1 7) < (8 : Int32) then
        mt_call (fX4_sign fu σ 1 a1 a2 a3) fun _ s4 =>
        some (((s4 1 7) - (1 : Int32)), s4)
      else
        mt_call (fX5_finding fu σ (1 : Int32)) fun r5 s6 =>
        some (r5, s6)
set_option maxHeartbeats 4000000 in
set_option maxRecDepth 20000 in
theorem vX5_treaty {K : mt_C} {fu : Nat} {σ : mt_St} {a1 : Int32} {a2 : Int32} {a3 : Int32} {r : Int32} {σf : mt_St} (hQ : mt_R K (some .int) (some (.int r)) σf) : mt_V K cX5_treaty RX5 4 2 σ 0 [(0, .ref (mt_adr (kG K) 0)), (1, .int a1), (2, .int a2), (3, .int a3)] [] (fX5_treaty fu σ a1 a2 a3 = some (r, σf)) := by
  unfold fX5_treaty
  refine mv_iload_n 1 dX5_treaty_0 rfl rfl ?_
  refine mv_bipush (v := 6) dX5_treaty_1 bp_6 ?_
  refine mv_cSri (As := [.int a1, .int (6 : Int32)]) (st := []) cal_X5_isWithin sta_X5_isWithin ml_X5_67 rfl (by decide) rfl (Nat.le_of_ble_eq_true rfl) dX5_treaty_3 (fun r h => co_X5_isWithin h) (fun r1 => ?_)
  refine mv_if_eq 17 dX5_treaty_6 (by decide) ?_ ?_
  · refine mv_sub (lv' := [(0, .ref (mt_adr (kG K) 0))]) [0] rfl ?_
    exact vX5_treaty_17 hQ σ
  · refine mv_iload_n 2 dX5_treaty_9 rfl rfl ?_
    refine mv_iload_n 3 dX5_treaty_10 rfl rfl ?_
    refine mv_cSri (As := [.int a2, .int a3]) (st := []) cal_X5_isPair sta_X5_isPair ml_X5_88 rfl (by decide) rfl (Nat.le_of_ble_eq_true rfl) dX5_treaty_11 (fun r h => co_X5_isPair h) (fun r2 => ?_)
    refine mv_if_ne 23 dX5_treaty_14 (by decide) ?_ ?_
    · refine mv_aload_n 0 dX5_treaty_23 rfl rfl ?_
      refine mg_X5_0 fl_X5_10 dX5_treaty_24 ?_
      refine mg_X4_7 rfl fl_X5_91 dX5_treaty_27 ?_
      refine mv_bipush (v := 8) dX5_treaty_30 bp_8 ?_
      refine mv_icmp_lt 41 dX5_treaty_32 (by decide) ?_ ?_
      · refine mv_aload_n 0 dX5_treaty_41 rfl rfl ?_
        refine mg_X5_0 fl_X5_10 dX5_treaty_42 ?_
        refine mv_iload_n 1 dX5_treaty_45 rfl rfl ?_
        refine mv_iload_n 2 dX5_treaty_46 rfl rfl ?_
        refine mv_iload_n 3 dX5_treaty_47 rfl rfl ?_
        refine mv_cVwv (As := [.int a1, .int a2, .int a3]) (st := []) cal_X4_sign ins_X4_sign ml_X5_94 rfl (by decide) rfl rfl (by decide) rfl (Nat.le_of_ble_eq_true rfl) dX5_treaty_48 (fun r s h => co_X4_sign rfl h) (fun r3 s4 => ?_)
        refine mv_aload_n 0 dX5_treaty_51 rfl rfl ?_
        refine mg_X5_0 fl_X5_10 dX5_treaty_52 ?_
        refine mg_X4_7 rfl fl_X5_91 dX5_treaty_55 ?_
        refine mv_iconst (v := 1) dX5_treaty_58 ic_1 ?_
        refine mv_isub dX5_treaty_59 ?_
        exact mv_iret hQ dX5_treaty_60
      · refine mv_aload_n 0 dX5_treaty_35 rfl rfl ?_
        refine mv_iconst (v := 1) dX5_treaty_36 ic_1 ?_
        refine mv_cVwi (As := [.int (1 : Int32)]) (st := []) cal_X5_finding ins_X5_finding ml_X5_71 rfl (by decide) rfl rfl (by decide) rfl (Nat.le_of_ble_eq_true rfl) dX5_treaty_37 (fun r s h => co_X5_finding h) (fun r5 s6 => ?_)
        exact mv_iret hQ dX5_treaty_40
    · refine mv_sub (lv' := [(0, .ref (mt_adr (kG K) 0))]) [0] rfl ?_
      exact vX5_treaty_17 hQ σ
theorem co_X5_treaty {l : Launch} {G : mt_G} {fu : Nat} {σ : mt_St} {a1 : Int32} {a2 : Int32} {a3 : Int32} {r : Int32} {σf : mt_St}  (h : fX5_treaty fu σ a1 a2 a3 = some (r, σf)) : mt_Con l G yX5_treaty cX5_treaty 4 (some .int) 2 [.ref (mt_adr G 0), .int a1, .int a2, .int a3] σ (some (.int r)) σf :=
  mt_con (by decide) (Nat.le_of_ble_eq_true rfl) (fun K hl hG hQ => by subst hl; subst hG; exact fun _ => vX5_treaty  hQ h)
theorem dX5_isTreaty_0 : decode cX5_isTreaty 0 = .ok (.iload_n 1, 1) := by decide +kernel
theorem dX5_isTreaty_1 : decode cX5_isTreaty 1 = .ok (.aload_n 0, 1) := by decide +kernel
theorem dX5_isTreaty_2 : decode cX5_isTreaty 2 = .ok (.getfield 10, 3) := by decide +kernel
theorem dX5_isTreaty_5 : decode cX5_isTreaty 5 = .ok (.getfield 91, 3) := by decide +kernel
theorem dX5_isTreaty_8 : decode cX5_isTreaty 8 = .ok (.iconst 1, 1) := by decide +kernel
theorem dX5_isTreaty_9 : decode cX5_isTreaty 9 = .ok (.isub, 1) := by decide +kernel
theorem dX5_isTreaty_10 : decode cX5_isTreaty 10 = .ok (.invokestatic 67, 3) := by decide +kernel
theorem dX5_isTreaty_13 : decode cX5_isTreaty 13 = .ok (.ireturn, 1) := by decide +kernel
def fX5_isTreaty (fu : Nat) (σ : mt_St) (a1 : Int32) : Option Int32 :=
  mt_ask (fX5_isWithin fu a1 ((σ 1 7) - (1 : Int32))) fun r1 =>
  mt_chk (mt_b01 r1) (some r1)
set_option maxHeartbeats 4000000 in
set_option maxRecDepth 20000 in
theorem vX5_isTreaty {K : mt_C} {fu : Nat} {σ : mt_St} {a1 : Int32} {r : Int32} (hQ : mt_R K (some .boolean) (some (.int r)) σ) : mt_V K cX5_isTreaty RX5 2 1 σ 0 [(0, .ref (mt_adr (kG K) 0)), (1, .int a1)] [] (fX5_isTreaty fu σ a1 = some r) := by
  unfold fX5_isTreaty
  refine mv_iload_n 1 dX5_isTreaty_0 rfl rfl ?_
  refine mv_aload_n 0 dX5_isTreaty_1 rfl rfl ?_
  refine mg_X5_0 fl_X5_10 dX5_isTreaty_2 ?_
  refine mg_X4_7 rfl fl_X5_91 dX5_isTreaty_5 ?_
  refine mv_iconst (v := 1) dX5_isTreaty_8 ic_1 ?_
  refine mv_isub dX5_isTreaty_9 ?_
  refine mv_cSri (As := [.int a1, .int ((σ 1 7) - (1 : Int32))]) (st := []) cal_X5_isWithin sta_X5_isWithin ml_X5_67 rfl (by decide) rfl (Nat.le_of_ble_eq_true rfl) dX5_isTreaty_10 (fun r h => co_X5_isWithin h) (fun r1 => ?_)
  exact mv_zretr hQ dX5_isTreaty_13
theorem co_X5_isTreaty {l : Launch} {G : mt_G} {fu : Nat} {σ : mt_St} {a1 : Int32} {r : Int32}  (h : fX5_isTreaty fu σ a1 = some r) : mt_Con l G yX5_isTreaty cX5_isTreaty 2 (some .boolean) 1 [.ref (mt_adr G 0), .int a1] σ (some (.int r)) σ :=
  mt_con (by decide) (Nat.le_of_ble_eq_true rfl) (fun K hl hG hQ => by subst hl; subst hG; exact fun _ => vX5_isTreaty  hQ h)
theorem dX5_of_0 : decode cX5_of 0 = .ok (.aload_n 0, 1) := by decide +kernel
theorem dX5_of_1 : decode cX5_of 1 = .ok (.iload_n 1, 1) := by decide +kernel
theorem dX5_of_2 : decode cX5_of 2 = .ok (.invokevirtual 98, 3) := by decide +kernel
theorem dX5_of_5 : decode cX5_of 5 = .ok (.ifCond .eq 12, 3) := by decide +kernel
theorem dX5_of_8 : decode cX5_of 8 = .ok (.iload_n 2, 1) := by decide +kernel
theorem dX5_of_9 : decode cX5_of 9 = .ok (.bipush 12, 2) := by decide +kernel
theorem dX5_of_11 : decode cX5_of 11 = .ok (.invokestatic 67, 3) := by decide +kernel
theorem dX5_of_14 : decode cX5_of 14 = .ok (.ifCond .ne 9, 3) := by decide +kernel
theorem dX5_of_17 : decode cX5_of 17 = .ok (.aload_n 0, 1) := by decide +kernel
theorem dX5_of_18 : decode cX5_of 18 = .ok (.iconst 0, 1) := by decide +kernel
theorem dX5_of_19 : decode cX5_of 19 = .ok (.invokevirtual 71, 3) := by decide +kernel
theorem dX5_of_22 : decode cX5_of 22 = .ok (.ireturn, 1) := by decide +kernel
theorem dX5_of_23 : decode cX5_of 23 = .ok (.aload_n 0, 1) := by decide +kernel
theorem dX5_of_24 : decode cX5_of 24 = .ok (.getfield 10, 3) := by decide +kernel
theorem dX5_of_27 : decode cX5_of 27 = .ok (.getfield 102, 3) := by decide +kernel
theorem dX5_of_30 : decode cX5_of 30 = .ok (.iload_n 1, 1) := by decide +kernel
theorem dX5_of_31 : decode cX5_of 31 = .ok (.aaload, 1) := by decide +kernel
theorem dX5_of_32 : decode cX5_of 32 = .ok (.iload_n 2, 1) := by decide +kernel
theorem dX5_of_33 : decode cX5_of 33 = .ok (.aload_n 0, 1) := by decide +kernel
theorem dX5_of_34 : decode cX5_of 34 = .ok (.getfield 10, 3) := by decide +kernel
theorem dX5_of_37 : decode cX5_of 37 = .ok (.getfield 82, 3) := by decide +kernel
theorem dX5_of_40 : decode cX5_of 40 = .ok (.invokevirtual 106, 3) := by decide +kernel
theorem dX5_of_43 : decode cX5_of 43 = .ok (.ireturn, 1) := by decide +kernel
def bX5_of_17 (fu : Nat) (σ : mt_St) : Option (Int32 × mt_St) :=
  mt_call (fX5_finding fu σ (0 : Int32)) fun r1 s2 =>
  some (r1, s2)
set_option maxHeartbeats 4000000 in
set_option maxRecDepth 20000 in
theorem vX5_of_17 {K : mt_C} {fu : Nat} {r : Int32} {σf : mt_St} (hQ : mt_R K (some .int) (some (.int r)) σf) : ∀ (σ : mt_St), mt_V K cX5_of RX5 3 3 σ 17 [(0, .ref (mt_adr (kG K) 0))] [] (bX5_of_17 fu σ = some (r, σf)) := by
  intro σ
  unfold bX5_of_17
  refine mv_aload_n 0 dX5_of_17 rfl rfl ?_
  refine mv_iconst (v := 0) dX5_of_18 ic_0 ?_
  refine mv_cVwi (As := [.int (0 : Int32)]) (st := []) cal_X5_finding ins_X5_finding ml_X5_71 rfl (by decide) rfl rfl (by decide) rfl (Nat.le_of_ble_eq_true rfl) dX5_of_19 (fun r s h => co_X5_finding h) (fun r1 s2 => ?_)
  exact mv_iret hQ dX5_of_22
def fX5_of (fu : Nat) (σ : mt_St) (a1 : Int32) (a2 : Int32) : Option (Int32 × mt_St) :=
  mt_ask (fX5_isTreaty fu σ a1) fun r1 =>
  if r1 = 0 then
    bX5_of_17 fu σ
  else
    mt_ask (fX5_isWithin fu a2 (12 : Int32)) fun r2 =>
    if r2 = 0 then
      bX5_of_17 fu σ
    else
      mt_chk (mt_in a1 8) <|
      mt_ask (fX3_tell fu σ ((1 + 2) + 2 + Int32.toNatClampNeg a1) a2 (σ 1 1)) fun r4 =>
      some (r4, σ)
set_option maxHeartbeats 4000000 in
set_option maxRecDepth 20000 in
theorem vX5_of {K : mt_C} {fu : Nat} {σ : mt_St} {a1 : Int32} {a2 : Int32} {r : Int32} {σf : mt_St} (hQ : mt_R K (some .int) (some (.int r)) σf) : mt_V K cX5_of RX5 3 3 σ 0 [(0, .ref (mt_adr (kG K) 0)), (1, .int a1), (2, .int a2)] [] (fX5_of fu σ a1 a2 = some (r, σf)) := by
  unfold fX5_of
  refine mv_aload_n 0 dX5_of_0 rfl rfl ?_
  refine mv_iload_n 1 dX5_of_1 rfl rfl ?_
  refine mv_cVri (As := [.int a1]) (st := []) cal_X5_isTreaty ins_X5_isTreaty ml_X5_98 rfl (by decide) rfl rfl (by decide) rfl (Nat.le_of_ble_eq_true rfl) dX5_of_2 (fun r h => co_X5_isTreaty h) (fun r1 => ?_)
  refine mv_if_eq 17 dX5_of_5 (by decide) ?_ ?_
  · refine mv_sub (lv' := [(0, .ref (mt_adr (kG K) 0))]) [0] rfl ?_
    exact vX5_of_17 hQ σ
  · refine mv_iload_n 2 dX5_of_8 rfl rfl ?_
    refine mv_bipush (v := 12) dX5_of_9 bp_12 ?_
    refine mv_cSri (As := [.int a2, .int (12 : Int32)]) (st := []) cal_X5_isWithin sta_X5_isWithin ml_X5_67 rfl (by decide) rfl (Nat.le_of_ble_eq_true rfl) dX5_of_11 (fun r h => co_X5_isWithin h) (fun r2 => ?_)
    refine mv_if_ne 23 dX5_of_14 (by decide) ?_ ?_
    · refine mv_aload_n 0 dX5_of_23 rfl rfl ?_
      refine mg_X5_0 fl_X5_10 dX5_of_24 ?_
      refine mg_X4_6 rfl fl_X5_102 dX5_of_27 ?_
      refine mv_iload_n 1 dX5_of_30 rfl rfl ?_
      refine mv_aaldT (kd_w2 rfl) (ln_w2 rfl) dX5_of_31 (fun h3 => ?_)
      refine mv_iload_n 2 dX5_of_32 rfl rfl ?_
      refine mv_aload_n 0 dX5_of_33 rfl rfl ?_
      refine mg_X5_0 fl_X5_10 dX5_of_34 ?_
      refine mg_X4_1 rfl fl_X5_82 dX5_of_37 ?_
      refine mv_cVri (As := [.int a2, .int (σ 1 1)]) (st := []) cal_X3_tell ins_X3_tell ml_X5_106 (kd_tr (kd_w2 rfl) h3) (by decide) rfl rfl (by decide) rfl (Nat.le_of_ble_eq_true rfl) dX5_of_40 (fun r h => co_X3_tell (kd_tr (kd_w2 rfl) h3) h) (fun r4 => ?_)
      exact mv_iret hQ dX5_of_43
    · refine mv_sub (lv' := [(0, .ref (mt_adr (kG K) 0))]) [0] rfl ?_
      exact vX5_of_17 hQ σ
theorem co_X5_of {l : Launch} {G : mt_G} {fu : Nat} {σ : mt_St} {a1 : Int32} {a2 : Int32} {r : Int32} {σf : mt_St}  (h : fX5_of fu σ a1 a2 = some (r, σf)) : mt_Con l G yX5_of cX5_of 3 (some .int) 3 [.ref (mt_adr G 0), .int a1, .int a2] σ (some (.int r)) σf :=
  mt_con (by decide) (Nat.le_of_ble_eq_true rfl) (fun K hl hG hQ => by subst hl; subst hG; exact fun _ => vX5_of  hQ h)
theorem dX5_change_0 : decode cX5_change 0 = .ok (.aload_n 0, 1) := by decide +kernel
theorem dX5_change_1 : decode cX5_change 1 = .ok (.iload_n 1, 1) := by decide +kernel
theorem dX5_change_2 : decode cX5_change 2 = .ok (.invokevirtual 98, 3) := by decide +kernel
theorem dX5_change_5 : decode cX5_change 5 = .ok (.ifCond .eq 12, 3) := by decide +kernel
theorem dX5_change_8 : decode cX5_change 8 = .ok (.iload_n 2, 1) := by decide +kernel
theorem dX5_change_9 : decode cX5_change 9 = .ok (.bipush 7, 2) := by decide +kernel
theorem dX5_change_11 : decode cX5_change 11 = .ok (.invokestatic 67, 3) := by decide +kernel
theorem dX5_change_14 : decode cX5_change 14 = .ok (.ifCond .ne 9, 3) := by decide +kernel
theorem dX5_change_17 : decode cX5_change 17 = .ok (.aload_n 0, 1) := by decide +kernel
theorem dX5_change_18 : decode cX5_change 18 = .ok (.iconst 0, 1) := by decide +kernel
theorem dX5_change_19 : decode cX5_change 19 = .ok (.invokevirtual 71, 3) := by decide +kernel
theorem dX5_change_22 : decode cX5_change 22 = .ok (.ireturn, 1) := by decide +kernel
theorem dX5_change_23 : decode cX5_change 23 = .ok (.aload_n 0, 1) := by decide +kernel
theorem dX5_change_24 : decode cX5_change 24 = .ok (.getfield 10, 3) := by decide +kernel
theorem dX5_change_27 : decode cX5_change 27 = .ok (.getfield 102, 3) := by decide +kernel
theorem dX5_change_30 : decode cX5_change 30 = .ok (.iload_n 1, 1) := by decide +kernel
theorem dX5_change_31 : decode cX5_change 31 = .ok (.aaload, 1) := by decide +kernel
theorem dX5_change_32 : decode cX5_change 32 = .ok (.astore 4, 2) := by decide +kernel
theorem dX5_change_34 : decode cX5_change 34 = .ok (.aload 4, 2) := by decide +kernel
theorem dX5_change_36 : decode cX5_change 36 = .ok (.iload_n 2, 1) := by decide +kernel
theorem dX5_change_37 : decode cX5_change 37 = .ok (.iload_n 3, 1) := by decide +kernel
theorem dX5_change_38 : decode cX5_change 38 = .ok (.invokevirtual 110, 3) := by decide +kernel
theorem dX5_change_41 : decode cX5_change 41 = .ok (.ifCond .ne 9, 3) := by decide +kernel
theorem dX5_change_44 : decode cX5_change 44 = .ok (.aload_n 0, 1) := by decide +kernel
theorem dX5_change_45 : decode cX5_change 45 = .ok (.iconst 0, 1) := by decide +kernel
theorem dX5_change_46 : decode cX5_change 46 = .ok (.invokevirtual 71, 3) := by decide +kernel
theorem dX5_change_49 : decode cX5_change 49 = .ok (.ireturn, 1) := by decide +kernel
theorem dX5_change_50 : decode cX5_change 50 = .ok (.aload 4, 2) := by decide +kernel
theorem dX5_change_52 : decode cX5_change 52 = .ok (.iload_n 2, 1) := by decide +kernel
theorem dX5_change_53 : decode cX5_change 53 = .ok (.aload_n 0, 1) := by decide +kernel
theorem dX5_change_54 : decode cX5_change 54 = .ok (.getfield 10, 3) := by decide +kernel
theorem dX5_change_57 : decode cX5_change 57 = .ok (.getfield 82, 3) := by decide +kernel
theorem dX5_change_60 : decode cX5_change 60 = .ok (.invokevirtual 106, 3) := by decide +kernel
theorem dX5_change_63 : decode cX5_change 63 = .ok (.istore 5, 2) := by decide +kernel
theorem dX5_change_65 : decode cX5_change 65 = .ok (.aload 4, 2) := by decide +kernel
theorem dX5_change_67 : decode cX5_change 67 = .ok (.iload_n 2, 1) := by decide +kernel
theorem dX5_change_68 : decode cX5_change 68 = .ok (.iload_n 3, 1) := by decide +kernel
theorem dX5_change_69 : decode cX5_change 69 = .ok (.invokevirtual 113, 3) := by decide +kernel
theorem dX5_change_72 : decode cX5_change 72 = .ok (.iload 5, 2) := by decide +kernel
theorem dX5_change_74 : decode cX5_change 74 = .ok (.ireturn, 1) := by decide +kernel
def bX5_change_17 (fu : Nat) (σ : mt_St) : Option (Int32 × mt_St) :=
  mt_call (fX5_finding fu σ (0 : Int32)) fun r1 s2 =>
  some (r1, s2)
set_option maxHeartbeats 4000000 in
set_option maxRecDepth 20000 in
theorem vX5_change_17 {K : mt_C} {fu : Nat} {r : Int32} {σf : mt_St} (hQ : mt_R K (some .int) (some (.int r)) σf) : ∀ (σ : mt_St), mt_V K cX5_change RX5 6 3 σ 17 [(0, .ref (mt_adr (kG K) 0))] [] (bX5_change_17 fu σ = some (r, σf)) := by
  intro σ
  unfold bX5_change_17
  refine mv_aload_n 0 dX5_change_17 rfl rfl ?_
  refine mv_iconst (v := 0) dX5_change_18 ic_0 ?_
  refine mv_cVwi (As := [.int (0 : Int32)]) (st := []) cal_X5_finding ins_X5_finding ml_X5_71 rfl (by decide) rfl rfl (by decide) rfl (Nat.le_of_ble_eq_true rfl) dX5_change_19 (fun r s h => co_X5_finding h) (fun r1 s2 => ?_)
  exact mv_iret hQ dX5_change_22
def fX5_change (fu : Nat) (σ : mt_St) (a1 : Int32) (a2 : Int32) (a3 : Int32) : Option (Int32 × mt_St) :=
  mt_ask (fX5_isTreaty fu σ a1) fun r1 =>
  if r1 = 0 then
    bX5_change_17 fu σ
  else
    mt_ask (fX5_isWithin fu a2 (7 : Int32)) fun r2 =>
    if r2 = 0 then
      bX5_change_17 fu σ
    else
      mt_chk (mt_in a1 8) <|
      mt_ask (fX3_takes fu σ ((1 + 2) + 2 + Int32.toNatClampNeg a1) a2 a3) fun r4 =>
      if r4 = 0 then
        mt_call (fX5_finding fu σ (0 : Int32)) fun r8 s9 =>
        some (r8, s9)
      else
        mt_ask (fX3_tell fu σ ((1 + 2) + 2 + Int32.toNatClampNeg a1) a2 (σ 1 1)) fun r5 =>
        mt_call (fX3_alter fu σ ((1 + 2) + 2 + Int32.toNatClampNeg a1) a2 a3) fun _ s7 =>
        some (r5, s7)
set_option maxHeartbeats 4000000 in
set_option maxRecDepth 20000 in
theorem vX5_change {K : mt_C} {fu : Nat} {σ : mt_St} {a1 : Int32} {a2 : Int32} {a3 : Int32} {r : Int32} {σf : mt_St} (hQ : mt_R K (some .int) (some (.int r)) σf) : mt_V K cX5_change RX5 6 3 σ 0 [(0, .ref (mt_adr (kG K) 0)), (1, .int a1), (2, .int a2), (3, .int a3)] [] (fX5_change fu σ a1 a2 a3 = some (r, σf)) := by
  unfold fX5_change
  refine mv_aload_n 0 dX5_change_0 rfl rfl ?_
  refine mv_iload_n 1 dX5_change_1 rfl rfl ?_
  refine mv_cVri (As := [.int a1]) (st := []) cal_X5_isTreaty ins_X5_isTreaty ml_X5_98 rfl (by decide) rfl rfl (by decide) rfl (Nat.le_of_ble_eq_true rfl) dX5_change_2 (fun r h => co_X5_isTreaty h) (fun r1 => ?_)
  refine mv_if_eq 17 dX5_change_5 (by decide) ?_ ?_
  · refine mv_sub (lv' := [(0, .ref (mt_adr (kG K) 0))]) [0] rfl ?_
    exact vX5_change_17 hQ σ
  · refine mv_iload_n 2 dX5_change_8 rfl rfl ?_
    refine mv_bipush (v := 7) dX5_change_9 bp_7 ?_
    refine mv_cSri (As := [.int a2, .int (7 : Int32)]) (st := []) cal_X5_isWithin sta_X5_isWithin ml_X5_67 rfl (by decide) rfl (Nat.le_of_ble_eq_true rfl) dX5_change_11 (fun r h => co_X5_isWithin h) (fun r2 => ?_)
    refine mv_if_ne 23 dX5_change_14 (by decide) ?_ ?_
    · refine mv_aload_n 0 dX5_change_23 rfl rfl ?_
      refine mg_X5_0 fl_X5_10 dX5_change_24 ?_
      refine mg_X4_6 rfl fl_X5_102 dX5_change_27 ?_
      refine mv_iload_n 1 dX5_change_30 rfl rfl ?_
      refine mv_aaldT (kd_w2 rfl) (ln_w2 rfl) dX5_change_31 (fun h3 => ?_)
      refine mv_astore (lv' := [(0, .ref (mt_adr (kG K) 0)), (2, .int a2), (3, .int a3), (4, .ref (mt_adr (kG K) ((1 + 2) + 2 + Int32.toNatClampNeg a1)))]) [1, 3, 4, 0] dX5_change_32 (by decide) rfl ?_
      refine mv_aload 3 dX5_change_34 rfl ?_
      refine mv_iload_n 1 dX5_change_36 rfl rfl ?_
      refine mv_iload_n 2 dX5_change_37 rfl rfl ?_
      refine mv_cVri (As := [.int a2, .int a3]) (st := []) cal_X3_takes ins_X3_takes ml_X5_110 (kd_tr (kd_w2 rfl) h3) (by decide) rfl rfl (by decide) rfl (Nat.le_of_ble_eq_true rfl) dX5_change_38 (fun r h => co_X3_takes (kd_tr (kd_w2 rfl) h3) h) (fun r4 => ?_)
      refine mv_if_ne 50 dX5_change_41 (by decide) ?_ ?_
      · refine mv_aload 3 dX5_change_50 rfl ?_
        refine mv_iload_n 1 dX5_change_52 rfl rfl ?_
        refine mv_aload_n 0 dX5_change_53 rfl rfl ?_
        refine mg_X5_0 fl_X5_10 dX5_change_54 ?_
        refine mg_X4_1 rfl fl_X5_82 dX5_change_57 ?_
        refine mv_cVri (As := [.int a2, .int (σ 1 1)]) (st := []) cal_X3_tell ins_X3_tell ml_X5_106 (kd_tr (kd_w2 rfl) h3) (by decide) rfl rfl (by decide) rfl (Nat.le_of_ble_eq_true rfl) dX5_change_60 (fun r h => co_X3_tell (kd_tr (kd_w2 rfl) h3) h) (fun r5 => ?_)
        refine mv_istore (lv' := [(2, .int a2), (3, .int a3), (4, .ref (mt_adr (kG K) ((1 + 2) + 2 + Int32.toNatClampNeg a1))), (5, .int r5)]) [2, 3, 4, 0] dX5_change_63 (by decide) rfl ?_
        refine mv_aload 2 dX5_change_65 rfl ?_
        refine mv_iload_n 0 dX5_change_67 rfl rfl ?_
        refine mv_iload_n 1 dX5_change_68 rfl rfl ?_
        refine mv_cVwv (As := [.int a2, .int a3]) (st := []) cal_X3_alter ins_X3_alter ml_X5_113 (kd_tr (kd_w2 rfl) h3) (by decide) rfl rfl (by decide) rfl (Nat.le_of_ble_eq_true rfl) dX5_change_69 (fun r s h => co_X3_alter (kd_tr (kd_w2 rfl) h3) h) (fun r6 s7 => ?_)
        refine mv_iload 3 dX5_change_72 rfl ?_
        exact mv_iret hQ dX5_change_74
      · refine mv_aload_n 0 dX5_change_44 rfl rfl ?_
        refine mv_iconst (v := 0) dX5_change_45 ic_0 ?_
        refine mv_cVwi (As := [.int (0 : Int32)]) (st := []) cal_X5_finding ins_X5_finding ml_X5_71 rfl (by decide) rfl rfl (by decide) rfl (Nat.le_of_ble_eq_true rfl) dX5_change_46 (fun r s h => co_X5_finding h) (fun r8 s9 => ?_)
        exact mv_iret hQ dX5_change_49
    · refine mv_sub (lv' := [(0, .ref (mt_adr (kG K) 0))]) [0] rfl ?_
      exact vX5_change_17 hQ σ
theorem co_X5_change {l : Launch} {G : mt_G} {fu : Nat} {σ : mt_St} {a1 : Int32} {a2 : Int32} {a3 : Int32} {r : Int32} {σf : mt_St}  (h : fX5_change fu σ a1 a2 a3 = some (r, σf)) : mt_Con l G yX5_change cX5_change 6 (some .int) 3 [.ref (mt_adr G 0), .int a1, .int a2, .int a3] σ (some (.int r)) σf :=
  mt_con (by decide) (Nat.le_of_ble_eq_true rfl) (fun K hl hG hQ => by subst hl; subst hG; exact fun _ => vX5_change  hQ h)
theorem dX5_wars_0 : decode cX5_wars 0 = .ok (.iload_n 1, 1) := by decide +kernel
theorem dX5_wars_1 : decode cX5_wars 1 = .ok (.iconst 5, 1) := by decide +kernel
theorem dX5_wars_2 : decode cX5_wars 2 = .ok (.invokestatic 67, 3) := by decide +kernel
theorem dX5_wars_5 : decode cX5_wars 5 = .ok (.ifCond .ne 9, 3) := by decide +kernel
theorem dX5_wars_8 : decode cX5_wars 8 = .ok (.aload_n 0, 1) := by decide +kernel
theorem dX5_wars_9 : decode cX5_wars 9 = .ok (.iconst 0, 1) := by decide +kernel
theorem dX5_wars_10 : decode cX5_wars 10 = .ok (.invokevirtual 71, 3) := by decide +kernel
theorem dX5_wars_13 : decode cX5_wars 13 = .ok (.ireturn, 1) := by decide +kernel
theorem dX5_wars_14 : decode cX5_wars 14 = .ok (.aload_n 0, 1) := by decide +kernel
theorem dX5_wars_15 : decode cX5_wars 15 = .ok (.getfield 10, 3) := by decide +kernel
theorem dX5_wars_18 : decode cX5_wars 18 = .ok (.invokevirtual 117, 3) := by decide +kernel
theorem dX5_wars_21 : decode cX5_wars 21 = .ok (.lstore_n 2, 1) := by decide +kernel
theorem dX5_wars_22 : decode cX5_wars 22 = .ok (.iconst 0, 1) := by decide +kernel
theorem dX5_wars_23 : decode cX5_wars 23 = .ok (.istore 4, 2) := by decide +kernel
theorem dX5_wars_25 : decode cX5_wars 25 = .ok (.iconst 0, 1) := by decide +kernel
theorem dX5_wars_26 : decode cX5_wars 26 = .ok (.istore 5, 2) := by decide +kernel
theorem dX5_wars_28 : decode cX5_wars 28 = .ok (.iload 5, 2) := by decide +kernel
theorem dX5_wars_30 : decode cX5_wars 30 = .ok (.bipush 6, 2) := by decide +kernel
theorem dX5_wars_32 : decode cX5_wars 32 = .ok (.if_icmp .ge 37, 3) := by decide +kernel
theorem dX5_wars_35 : decode cX5_wars 35 = .ok (.iload 5, 2) := by decide +kernel
theorem dX5_wars_37 : decode cX5_wars 37 = .ok (.iload_n 1, 1) := by decide +kernel
theorem dX5_wars_38 : decode cX5_wars 38 = .ok (.if_icmp .eq 25, 3) := by decide +kernel
theorem dX5_wars_41 : decode cX5_wars 41 = .ok (.lload_n 2, 1) := by decide +kernel
theorem dX5_wars_42 : decode cX5_wars 42 = .ok (.iload_n 1, 1) := by decide +kernel
theorem dX5_wars_43 : decode cX5_wars 43 = .ok (.iload 5, 2) := by decide +kernel
theorem dX5_wars_45 : decode cX5_wars 45 = .ok (.invokestatic 121, 3) := by decide +kernel
theorem dX5_wars_48 : decode cX5_wars 48 = .ok (.land, 1) := by decide +kernel
theorem dX5_wars_49 : decode cX5_wars 49 = .ok (.lconst 0, 1) := by decide +kernel
theorem dX5_wars_50 : decode cX5_wars 50 = .ok (.lcmp, 1) := by decide +kernel
theorem dX5_wars_51 : decode cX5_wars 51 = .ok (.ifCond .eq 12, 3) := by decide +kernel
theorem dX5_wars_54 : decode cX5_wars 54 = .ok (.iload 4, 2) := by decide +kernel
theorem dX5_wars_56 : decode cX5_wars 56 = .ok (.iconst 1, 1) := by decide +kernel
theorem dX5_wars_57 : decode cX5_wars 57 = .ok (.iload 5, 2) := by decide +kernel
theorem dX5_wars_59 : decode cX5_wars 59 = .ok (.ishl, 1) := by decide +kernel
theorem dX5_wars_60 : decode cX5_wars 60 = .ok (.ior, 1) := by decide +kernel
theorem dX5_wars_61 : decode cX5_wars 61 = .ok (.istore 4, 2) := by decide +kernel
theorem dX5_wars_63 : decode cX5_wars 63 = .ok (.iinc 5 1, 3) := by decide +kernel
theorem dX5_wars_66 : decode cX5_wars 66 = .ok (.goto (-38), 3) := by decide +kernel
theorem dX5_wars_69 : decode cX5_wars 69 = .ok (.iload 4, 2) := by decide +kernel
theorem dX5_wars_71 : decode cX5_wars 71 = .ok (.ireturn, 1) := by decide +kernel
def bX5_wars_63 (fu : Nat) (k28 : mt_St → Int32 → Int64 → Int32 → Int32 → Option (Int32 × mt_St)) (σ : mt_St) (x1 : Int32) (x2 : Int64) (x4 : Int32) (x5 : Int32) : Option (Int32 × mt_St) :=
  k28 σ x1 x2 x4 (x5 + 1)
set_option maxHeartbeats 4000000 in
set_option maxRecDepth 20000 in
theorem vX5_wars_63 {K : mt_C} {fu : Nat} {r : Int32} {σf : mt_St} (hQ : mt_R K (some .int) (some (.int r)) σf) {k28 : mt_St → Int32 → Int64 → Int32 → Int32 → Option (Int32 × mt_St)} (hk28 : ∀ (s0 : mt_St) (x1 : Int32) (x2 : Int64) (x4 : Int32) (x5 : Int32), mt_V K cX5_wars RX5 6 3 s0 28 [(1, .int x1), (2, .long x2), (4, .int x4), (5, .int x5)] [] (k28 s0 x1 x2 x4 x5 = some (r, σf))) : ∀ (σ : mt_St) (x1 : Int32) (x2 : Int64) (x4 : Int32) (x5 : Int32), mt_V K cX5_wars RX5 6 3 σ 63 [(1, .int x1), (2, .long x2), (4, .int x4), (5, .int x5)] [] (bX5_wars_63 fu k28 σ x1 x2 x4 x5 = some (r, σf)) := by
  intro σ x1 x2 x4 x5
  unfold bX5_wars_63
  refine mv_iinc (k0 := 3) (v := x5 + 1) (lv' := [(1, .int x1), (2, .long x2), (4, .int x4), (5, .int (x5 + 1))]) [1, 2, 3, 0] dX5_wars_63 rfl (mt_inc ic_1) (by decide) rfl ?_
  refine mv_goto 28 dX5_wars_66 (by decide) ?_
  exact hk28 σ x1 x2 x4 (x5 + 1)
def bX5_wars_28 (fu : Nat) : Nat → mt_St → Int32 → Int64 → Int32 → Int32 → Option (Int32 × mt_St)
  | 0, _, _, _, _, _ => none
  | n + 1, σ, x1, x2, x4, x5 =>
    if (6 : Int32) ≤ x5 then
      some (x4, σ)
    else
      if x5 = x1 then
        bX5_wars_63 fu (fun s0 x1 x2 x4 x5 => bX5_wars_28 fu n s0 x1 x2 x4 x5) σ x1 x2 x4 x5
      else
        mt_ask (fX5_pair fu x1 x5) fun r1 =>
        if (lg_cmp (x2 &&& r1) (0 : Int64)) = 0 then
          bX5_wars_63 fu (fun s0 x1 x2 x4 x5 => bX5_wars_28 fu n s0 x1 x2 x4 x5) σ x1 x2 x4 x5
        else
          bX5_wars_63 fu (fun s0 x1 x2 x4 x5 => bX5_wars_28 fu n s0 x1 x2 x4 x5) σ x1 x2 (x4 ||| ((1 : Int32) <<< (x5 &&& 31))) x5
set_option maxHeartbeats 4000000 in
set_option maxRecDepth 20000 in
theorem vX5_wars_28 {K : mt_C} {fu : Nat} {r : Int32} {σf : mt_St} (hQ : mt_R K (some .int) (some (.int r)) σf) : ∀ (n : Nat) (σ : mt_St) (x1 : Int32) (x2 : Int64) (x4 : Int32) (x5 : Int32), mt_V K cX5_wars RX5 6 3 σ 28 [(1, .int x1), (2, .long x2), (4, .int x4), (5, .int x5)] [] (bX5_wars_28 fu n σ x1 x2 x4 x5 = some (r, σf)) := by
  intro n
  induction n with
  | zero => intro σ x1 x2 x4 x5; intro hP; unfold bX5_wars_28 at hP; cases hP
  | succ n ih =>
    intro σ x1 x2 x4 x5
    unfold bX5_wars_28
    refine mv_iload 3 dX5_wars_28 rfl ?_
    refine mv_bipush (v := 6) dX5_wars_30 bp_6 ?_
    refine mv_icmp_ge 69 dX5_wars_32 (by decide) ?_ ?_
    · refine mv_iload 2 dX5_wars_69 rfl ?_
      exact mv_iret hQ dX5_wars_71
    · refine mv_iload 3 dX5_wars_35 rfl ?_
      refine mv_iload_n 0 dX5_wars_37 rfl rfl ?_
      refine mv_icmp_eq 63 dX5_wars_38 (by decide) ?_ ?_
      · exact vX5_wars_63 hQ (fun s0 x1 x2 x4 x5 => ih s0 x1 x2 x4 x5) σ x1 x2 x4 x5
      · refine mv_lload_n 1 dX5_wars_41 rfl rfl ?_
        refine mv_iload_n 0 dX5_wars_42 rfl rfl ?_
        refine mv_iload 3 dX5_wars_43 rfl ?_
        refine mv_cSrl (As := [.int x1, .int x5]) (st := [.long x2]) cal_X5_pair sta_X5_pair ml_X5_121 rfl (by decide) rfl (Nat.le_of_ble_eq_true rfl) dX5_wars_45 (fun r h => co_X5_pair h) (fun r1 => ?_)
        refine mv_land dX5_wars_48 ?_
        refine mv_lconst (v := 0) dX5_wars_49 (by decide) ?_
        refine mv_lcmp dX5_wars_50 ?_
        refine mv_if_eq 63 dX5_wars_51 (by decide) ?_ ?_
        · exact vX5_wars_63 hQ (fun s0 x1 x2 x4 x5 => ih s0 x1 x2 x4 x5) σ x1 x2 x4 x5
        · refine mv_iload 2 dX5_wars_54 rfl ?_
          refine mv_iconst (v := 1) dX5_wars_56 ic_1 ?_
          refine mv_iload 3 dX5_wars_57 rfl ?_
          refine mv_ishl dX5_wars_59 ?_
          refine mv_ior dX5_wars_60 ?_
          refine mv_istore (lv' := [(1, .int x1), (2, .long x2), (4, .int (x4 ||| ((1 : Int32) <<< (x5 &&& 31)))), (5, .int x5)]) [1, 2, 0, 3] dX5_wars_61 (by decide) rfl ?_
          exact vX5_wars_63 hQ (fun s0 x1 x2 x4 x5 => ih s0 x1 x2 x4 x5) σ x1 x2 (x4 ||| ((1 : Int32) <<< (x5 &&& 31))) x5
def fX5_wars (fu : Nat) (σ : mt_St) (a1 : Int32) : Option (Int32 × mt_St) :=
  mt_ask (fX5_isWithin fu a1 (5 : Int32)) fun r1 =>
  if r1 = 0 then
    mt_call (fX5_finding fu σ (0 : Int32)) fun r3 s4 =>
    some (r3, s4)
  else
    mt_ask (fX4_pairsAtWar fu σ 1) fun r2 =>
    bX5_wars_28 fu fu σ a1 r2 (0 : Int32) (0 : Int32)
set_option maxHeartbeats 4000000 in
set_option maxRecDepth 20000 in
theorem vX5_wars {K : mt_C} {fu : Nat} {σ : mt_St} {a1 : Int32} {r : Int32} {σf : mt_St} (hQ : mt_R K (some .int) (some (.int r)) σf) : mt_V K cX5_wars RX5 6 3 σ 0 [(0, .ref (mt_adr (kG K) 0)), (1, .int a1)] [] (fX5_wars fu σ a1 = some (r, σf)) := by
  unfold fX5_wars
  refine mv_iload_n 1 dX5_wars_0 rfl rfl ?_
  refine mv_iconst (v := 5) dX5_wars_1 ic_5 ?_
  refine mv_cSri (As := [.int a1, .int (5 : Int32)]) (st := []) cal_X5_isWithin sta_X5_isWithin ml_X5_67 rfl (by decide) rfl (Nat.le_of_ble_eq_true rfl) dX5_wars_2 (fun r h => co_X5_isWithin h) (fun r1 => ?_)
  refine mv_if_ne 14 dX5_wars_5 (by decide) ?_ ?_
  · refine mv_aload_n 0 dX5_wars_14 rfl rfl ?_
    refine mg_X5_0 fl_X5_10 dX5_wars_15 ?_
    refine mv_cVrl (As := []) (st := []) cal_X4_pairsAtWar ins_X4_pairsAtWar ml_X5_117 rfl (by decide) rfl rfl (by decide) rfl (Nat.le_of_ble_eq_true rfl) dX5_wars_18 (fun r h => co_X4_pairsAtWar rfl h) (fun r2 => ?_)
    refine mv_lstore_n (lv' := [(1, .int a1), (2, .long r2)]) [2, 0] dX5_wars_21 rfl (by decide) rfl ?_
    refine mv_iconst (v := 0) dX5_wars_22 ic_0 ?_
    refine mv_istore (lv' := [(1, .int a1), (2, .long r2), (4, .int (0 : Int32))]) [1, 2, 0] dX5_wars_23 (by decide) rfl ?_
    refine mv_iconst (v := 0) dX5_wars_25 ic_0 ?_
    refine mv_istore (lv' := [(1, .int a1), (2, .long r2), (4, .int (0 : Int32)), (5, .int (0 : Int32))]) [1, 2, 3, 0] dX5_wars_26 (by decide) rfl ?_
    exact vX5_wars_28 hQ fu σ a1 r2 (0 : Int32) (0 : Int32)
  · refine mv_aload_n 0 dX5_wars_8 rfl rfl ?_
    refine mv_iconst (v := 0) dX5_wars_9 ic_0 ?_
    refine mv_cVwi (As := [.int (0 : Int32)]) (st := []) cal_X5_finding ins_X5_finding ml_X5_71 rfl (by decide) rfl rfl (by decide) rfl (Nat.le_of_ble_eq_true rfl) dX5_wars_10 (fun r s h => co_X5_finding h) (fun r3 s4 => ?_)
    exact mv_iret hQ dX5_wars_13
theorem co_X5_wars {l : Launch} {G : mt_G} {fu : Nat} {σ : mt_St} {a1 : Int32} {r : Int32} {σf : mt_St}  (h : fX5_wars fu σ a1 = some (r, σf)) : mt_Con l G yX5_wars cX5_wars 6 (some .int) 3 [.ref (mt_adr G 0), .int a1] σ (some (.int r)) σf :=
  mt_con (by decide) (Nat.le_of_ble_eq_true rfl) (fun K hl hG hQ => by subst hl; subst hG; exact fun _ => vX5_wars  hQ h)
theorem dX5_go_0 : decode cX5_go 0 = .ok (.iload_n 1, 1) := by decide +kernel
theorem dX5_go_1 : decode cX5_go 1 = .ok (.iconst 1, 1) := by decide +kernel
theorem dX5_go_2 : decode cX5_go 2 = .ok (.if_icmp .lt 9, 3) := by decide +kernel
theorem dX5_go_5 : decode cX5_go 5 = .ok (.iload_n 1, 1) := by decide +kernel
theorem dX5_go_6 : decode cX5_go 6 = .ok (.bipush 60, 2) := by decide +kernel
theorem dX5_go_8 : decode cX5_go 8 = .ok (.if_icmp .le 9, 3) := by decide +kernel
theorem dX5_go_11 : decode cX5_go 11 = .ok (.aload_n 0, 1) := by decide +kernel
theorem dX5_go_12 : decode cX5_go 12 = .ok (.iconst 0, 1) := by decide +kernel
theorem dX5_go_13 : decode cX5_go 13 = .ok (.invokevirtual 71, 3) := by decide +kernel
theorem dX5_go_16 : decode cX5_go 16 = .ok (.ireturn, 1) := by decide +kernel
theorem dX5_go_17 : decode cX5_go 17 = .ok (.aload_n 0, 1) := by decide +kernel
theorem dX5_go_18 : decode cX5_go 18 = .ok (.getfield 10, 3) := by decide +kernel
theorem dX5_go_21 : decode cX5_go 21 = .ok (.getfield 125, 3) := by decide +kernel
theorem dX5_go_24 : decode cX5_go 24 = .ok (.iload_n 1, 1) := by decide +kernel
theorem dX5_go_25 : decode cX5_go 25 = .ok (.iadd, 1) := by decide +kernel
theorem dX5_go_26 : decode cX5_go 26 = .ok (.ldc 128, 2) := by decide +kernel
theorem dX5_go_28 : decode cX5_go 28 = .ok (.if_icmp .le 9, 3) := by decide +kernel
theorem dX5_go_31 : decode cX5_go 31 = .ok (.aload_n 0, 1) := by decide +kernel
theorem dX5_go_32 : decode cX5_go 32 = .ok (.iconst 4, 1) := by decide +kernel
theorem dX5_go_33 : decode cX5_go 33 = .ok (.invokevirtual 71, 3) := by decide +kernel
theorem dX5_go_36 : decode cX5_go 36 = .ok (.ireturn, 1) := by decide +kernel
theorem dX5_go_37 : decode cX5_go 37 = .ok (.aload_n 0, 1) := by decide +kernel
theorem dX5_go_38 : decode cX5_go 38 = .ok (.getfield 10, 3) := by decide +kernel
theorem dX5_go_41 : decode cX5_go 41 = .ok (.iload_n 1, 1) := by decide +kernel
theorem dX5_go_42 : decode cX5_go 42 = .ok (.invokevirtual 129, 3) := by decide +kernel
theorem dX5_go_45 : decode cX5_go 45 = .ok (.aload_n 0, 1) := by decide +kernel
theorem dX5_go_46 : decode cX5_go 46 = .ok (.getfield 10, 3) := by decide +kernel
theorem dX5_go_49 : decode cX5_go 49 = .ok (.invokevirtual 133, 3) := by decide +kernel
theorem dX5_go_52 : decode cX5_go 52 = .ok (.ireturn, 1) := by decide +kernel
def bX5_go_11 (fu : Nat) (σ : mt_St) : Option (Int32 × mt_St) :=
  mt_call (fX5_finding fu σ (0 : Int32)) fun r1 s2 =>
  some (r1, s2)
set_option maxHeartbeats 4000000 in
set_option maxRecDepth 20000 in
theorem vX5_go_11 {K : mt_C} {fu : Nat} {r : Int32} {σf : mt_St} (hQ : mt_R K (some .int) (some (.int r)) σf) : ∀ (σ : mt_St), mt_V K cX5_go RX5 2 6 σ 11 [(0, .ref (mt_adr (kG K) 0))] [] (bX5_go_11 fu σ = some (r, σf)) := by
  intro σ
  unfold bX5_go_11
  refine mv_aload_n 0 dX5_go_11 rfl rfl ?_
  refine mv_iconst (v := 0) dX5_go_12 ic_0 ?_
  refine mv_cVwi (As := [.int (0 : Int32)]) (st := []) cal_X5_finding ins_X5_finding ml_X5_71 rfl (by decide) rfl rfl (by decide) rfl (Nat.le_of_ble_eq_true rfl) dX5_go_13 (fun r s h => co_X5_finding h) (fun r1 s2 => ?_)
  exact mv_iret hQ dX5_go_16
def fX5_go (fu : Nat) (σ : mt_St) (a1 : Int32) : Option (Int32 × mt_St) :=
  if a1 < (1 : Int32) then
    bX5_go_11 fu σ
  else
    if a1 ≤ (60 : Int32) then
      if ((σ 1 4) + a1) ≤ (99999 : Int32) then
        mt_call (fX4_passYears fu σ 1 a1) fun _ s2 =>
        mt_ask (fX4_inForce fu s2 1) fun r3 =>
        some (r3, s2)
      else
        mt_call (fX5_finding fu σ (4 : Int32)) fun r4 s5 =>
        some (r4, s5)
    else
      bX5_go_11 fu σ
set_option maxHeartbeats 4000000 in
set_option maxRecDepth 20000 in
theorem vX5_go {K : mt_C} {fu : Nat} {σ : mt_St} {a1 : Int32} {r : Int32} {σf : mt_St} (hQ : mt_R K (some .int) (some (.int r)) σf) : mt_V K cX5_go RX5 2 6 σ 0 [(0, .ref (mt_adr (kG K) 0)), (1, .int a1)] [] (fX5_go fu σ a1 = some (r, σf)) := by
  unfold fX5_go
  refine mv_iload_n 1 dX5_go_0 rfl rfl ?_
  refine mv_iconst (v := 1) dX5_go_1 ic_1 ?_
  refine mv_icmp_lt 11 dX5_go_2 (by decide) ?_ ?_
  · refine mv_sub (lv' := [(0, .ref (mt_adr (kG K) 0))]) [0] rfl ?_
    exact vX5_go_11 hQ σ
  · refine mv_iload_n 1 dX5_go_5 rfl rfl ?_
    refine mv_bipush (v := 60) dX5_go_6 bp_60 ?_
    refine mv_icmp_le 17 dX5_go_8 (by decide) ?_ ?_
    · refine mv_aload_n 0 dX5_go_17 rfl rfl ?_
      refine mg_X5_0 fl_X5_10 dX5_go_18 ?_
      refine mg_X4_4 rfl fl_X5_125 dX5_go_21 ?_
      refine mv_iload_n 1 dX5_go_24 rfl rfl ?_
      refine mv_iadd dX5_go_25 ?_
      refine mv_ldc kc_X5_128 dX5_go_26 ?_
      refine mv_icmp_le 37 dX5_go_28 (by decide) ?_ ?_
      · refine mv_aload_n 0 dX5_go_37 rfl rfl ?_
        refine mg_X5_0 fl_X5_10 dX5_go_38 ?_
        refine mv_iload_n 1 dX5_go_41 rfl rfl ?_
        refine mv_cVwv (As := [.int a1]) (st := []) cal_X4_passYears ins_X4_passYears ml_X5_129 rfl (by decide) rfl rfl (by decide) rfl (Nat.le_of_ble_eq_true rfl) dX5_go_42 (fun r s h => co_X4_passYears rfl h) (fun r1 s2 => ?_)
        refine mv_aload_n 0 dX5_go_45 rfl rfl ?_
        refine mg_X5_0 fl_X5_10 dX5_go_46 ?_
        refine mv_cVri (As := []) (st := []) cal_X4_inForce ins_X4_inForce ml_X5_133 rfl (by decide) rfl rfl (by decide) rfl (Nat.le_of_ble_eq_true rfl) dX5_go_49 (fun r h => co_X4_inForce rfl h) (fun r3 => ?_)
        exact mv_iret hQ dX5_go_52
      · refine mv_aload_n 0 dX5_go_31 rfl rfl ?_
        refine mv_iconst (v := 4) dX5_go_32 ic_4 ?_
        refine mv_cVwi (As := [.int (4 : Int32)]) (st := []) cal_X5_finding ins_X5_finding ml_X5_71 rfl (by decide) rfl rfl (by decide) rfl (Nat.le_of_ble_eq_true rfl) dX5_go_33 (fun r s h => co_X5_finding h) (fun r4 s5 => ?_)
        exact mv_iret hQ dX5_go_36
    · refine mv_sub (lv' := [(0, .ref (mt_adr (kG K) 0))]) [0] rfl ?_
      exact vX5_go_11 hQ σ
theorem co_X5_go {l : Launch} {G : mt_G} {fu : Nat} {σ : mt_St} {a1 : Int32} {r : Int32} {σf : mt_St}  (h : fX5_go fu σ a1 = some (r, σf)) : mt_Con l G yX5_go cX5_go 2 (some .int) 6 [.ref (mt_adr G 0), .int a1] σ (some (.int r)) σf :=
  mt_con (by decide) (Nat.le_of_ble_eq_true rfl) (fun K hl hG hQ => by subst hl; subst hG; exact fun _ => vX5_go  hQ h)
theorem dX5_now_0 : decode cX5_now 0 = .ok (.iload_n 1, 1) := by decide +kernel
theorem dX5_now_1 : decode cX5_now 1 = .ok (.tableswitch 114 0 7 #[47, 55, 63, 71, 79, 90, 98, 106], 47) := by decide +kernel
theorem dX5_now_48 : decode cX5_now 48 = .ok (.aload_n 0, 1) := by decide +kernel
theorem dX5_now_49 : decode cX5_now 49 = .ok (.getfield 10, 3) := by decide +kernel
theorem dX5_now_52 : decode cX5_now 52 = .ok (.getfield 125, 3) := by decide +kernel
theorem dX5_now_55 : decode cX5_now 55 = .ok (.ireturn, 1) := by decide +kernel
theorem dX5_now_56 : decode cX5_now 56 = .ok (.aload_n 0, 1) := by decide +kernel
theorem dX5_now_57 : decode cX5_now 57 = .ok (.getfield 10, 3) := by decide +kernel
theorem dX5_now_60 : decode cX5_now 60 = .ok (.invokevirtual 133, 3) := by decide +kernel
theorem dX5_now_63 : decode cX5_now 63 = .ok (.ireturn, 1) := by decide +kernel
theorem dX5_now_64 : decode cX5_now 64 = .ok (.aload_n 0, 1) := by decide +kernel
theorem dX5_now_65 : decode cX5_now 65 = .ok (.getfield 10, 3) := by decide +kernel
theorem dX5_now_68 : decode cX5_now 68 = .ok (.getfield 137, 3) := by decide +kernel
theorem dX5_now_71 : decode cX5_now 71 = .ok (.ireturn, 1) := by decide +kernel
theorem dX5_now_72 : decode cX5_now 72 = .ok (.aload_n 0, 1) := by decide +kernel
theorem dX5_now_73 : decode cX5_now 73 = .ok (.getfield 10, 3) := by decide +kernel
theorem dX5_now_76 : decode cX5_now 76 = .ok (.invokevirtual 140, 3) := by decide +kernel
theorem dX5_now_79 : decode cX5_now 79 = .ok (.ireturn, 1) := by decide +kernel
theorem dX5_now_80 : decode cX5_now 80 = .ok (.aload_n 0, 1) := by decide +kernel
theorem dX5_now_81 : decode cX5_now 81 = .ok (.getfield 10, 3) := by decide +kernel
theorem dX5_now_84 : decode cX5_now 84 = .ok (.invokevirtual 117, 3) := by decide +kernel
theorem dX5_now_87 : decode cX5_now 87 = .ok (.invokestatic 143, 3) := by decide +kernel
theorem dX5_now_90 : decode cX5_now 90 = .ok (.ireturn, 1) := by decide +kernel
theorem dX5_now_91 : decode cX5_now 91 = .ok (.aload_n 0, 1) := by decide +kernel
theorem dX5_now_92 : decode cX5_now 92 = .ok (.getfield 10, 3) := by decide +kernel
theorem dX5_now_95 : decode cX5_now 95 = .ok (.invokevirtual 149, 3) := by decide +kernel
theorem dX5_now_98 : decode cX5_now 98 = .ok (.ireturn, 1) := by decide +kernel
theorem dX5_now_99 : decode cX5_now 99 = .ok (.aload_n 0, 1) := by decide +kernel
theorem dX5_now_100 : decode cX5_now 100 = .ok (.getfield 10, 3) := by decide +kernel
theorem dX5_now_103 : decode cX5_now 103 = .ok (.invokevirtual 152, 3) := by decide +kernel
theorem dX5_now_106 : decode cX5_now 106 = .ok (.ireturn, 1) := by decide +kernel
theorem dX5_now_107 : decode cX5_now 107 = .ok (.aload_n 0, 1) := by decide +kernel
theorem dX5_now_108 : decode cX5_now 108 = .ok (.getfield 10, 3) := by decide +kernel
theorem dX5_now_111 : decode cX5_now 111 = .ok (.invokevirtual 155, 3) := by decide +kernel
theorem dX5_now_114 : decode cX5_now 114 = .ok (.ireturn, 1) := by decide +kernel
theorem dX5_now_115 : decode cX5_now 115 = .ok (.aload_n 0, 1) := by decide +kernel
theorem dX5_now_116 : decode cX5_now 116 = .ok (.iconst 0, 1) := by decide +kernel
theorem dX5_now_117 : decode cX5_now 117 = .ok (.invokevirtual 71, 3) := by decide +kernel
theorem dX5_now_120 : decode cX5_now 120 = .ok (.ireturn, 1) := by decide +kernel
def fX5_now (fu : Nat) (σ : mt_St) (a1 : Int32) : Option (Int32 × mt_St) :=
  if a1 = 0 then
    some ((σ 1 4), σ)
  else
  if a1 = 1 then
    mt_ask (fX4_inForce fu σ 1) fun r1 =>
    some (r1, σ)
  else
  if a1 = 2 then
    some ((σ 1 3), σ)
  else
  if a1 = 3 then
    mt_ask (fX4_allBroken fu σ 1) fun r2 =>
    some (r2, σ)
  else
  if a1 = 4 then
    mt_ask (fX4_pairsAtWar fu σ 1) fun r3 =>
    mt_ask (fJ13_bitCount_95d88 fu r3) fun r4 =>
    some (r4, σ)
  else
  if a1 = 5 then
    mt_ask (fX4_breaking fu σ 1) fun r5 =>
    some (r5, σ)
  else
  if a1 = 6 then
    mt_ask (fX4_marksInForce fu σ 1) fun r6 =>
    some (r6, σ)
  else
  if a1 = 7 then
    mt_ask (fX4_longestHeld fu σ 1) fun r7 =>
    some (r7, σ)
  else
  mt_call (fX5_finding fu σ (0 : Int32)) fun r8 s9 =>
  some (r8, s9)
set_option maxHeartbeats 4000000 in
set_option maxRecDepth 20000 in
theorem vX5_now {K : mt_C} {fu : Nat} {σ : mt_St} {a1 : Int32} {r : Int32} {σf : mt_St} (hQ : mt_R K (some .int) (some (.int r)) σf) : mt_V K cX5_now RX5 2 3 σ 0 [(0, .ref (mt_adr (kG K) 0)), (1, .int a1)] [] (fX5_now fu σ a1 = some (r, σf)) := by
  unfold fX5_now
  refine mv_iload_n 1 dX5_now_0 rfl rfl ?_
  refine mv_case (fun e0 => ?_) (fun n0 => ?_)
  · refine mv_tsin 0 48 e0 dX5_now_1 (by decide) (by decide) rfl (by decide) ?_
    refine mv_aload_n 0 dX5_now_48 rfl rfl ?_
    refine mg_X5_0 fl_X5_10 dX5_now_49 ?_
    refine mg_X4_4 rfl fl_X5_125 dX5_now_52 ?_
    exact mv_iret hQ dX5_now_55
  refine mv_case (fun e1 => ?_) (fun n1 => ?_)
  · refine mv_tsin 1 56 e1 dX5_now_1 (by decide) (by decide) rfl (by decide) ?_
    refine mv_aload_n 0 dX5_now_56 rfl rfl ?_
    refine mg_X5_0 fl_X5_10 dX5_now_57 ?_
    refine mv_cVri (As := []) (st := []) cal_X4_inForce ins_X4_inForce ml_X5_133 rfl (by decide) rfl rfl (by decide) rfl (Nat.le_of_ble_eq_true rfl) dX5_now_60 (fun r h => co_X4_inForce rfl h) (fun r1 => ?_)
    exact mv_iret hQ dX5_now_63
  refine mv_case (fun e2 => ?_) (fun n2 => ?_)
  · refine mv_tsin 2 64 e2 dX5_now_1 (by decide) (by decide) rfl (by decide) ?_
    refine mv_aload_n 0 dX5_now_64 rfl rfl ?_
    refine mg_X5_0 fl_X5_10 dX5_now_65 ?_
    refine mg_X4_3 rfl fl_X5_137 dX5_now_68 ?_
    exact mv_iret hQ dX5_now_71
  refine mv_case (fun e3 => ?_) (fun n3 => ?_)
  · refine mv_tsin 3 72 e3 dX5_now_1 (by decide) (by decide) rfl (by decide) ?_
    refine mv_aload_n 0 dX5_now_72 rfl rfl ?_
    refine mg_X5_0 fl_X5_10 dX5_now_73 ?_
    refine mv_cVri (As := []) (st := []) cal_X4_allBroken ins_X4_allBroken ml_X5_140 rfl (by decide) rfl rfl (by decide) rfl (Nat.le_of_ble_eq_true rfl) dX5_now_76 (fun r h => co_X4_allBroken rfl h) (fun r2 => ?_)
    exact mv_iret hQ dX5_now_79
  refine mv_case (fun e4 => ?_) (fun n4 => ?_)
  · refine mv_tsin 4 80 e4 dX5_now_1 (by decide) (by decide) rfl (by decide) ?_
    refine mv_aload_n 0 dX5_now_80 rfl rfl ?_
    refine mg_X5_0 fl_X5_10 dX5_now_81 ?_
    refine mv_cVrl (As := []) (st := []) cal_X4_pairsAtWar ins_X4_pairsAtWar ml_X5_117 rfl (by decide) rfl rfl (by decide) rfl (Nat.le_of_ble_eq_true rfl) dX5_now_84 (fun r h => co_X4_pairsAtWar rfl h) (fun r3 => ?_)
    refine mv_cSri (As := [.long r3]) (st := []) cal_J13_bitCount_95d88 sta_J13_bitCount_95d88 ml_X5_143 rfl (by decide) rfl (Nat.le_of_ble_eq_true rfl) dX5_now_87 (fun r h => co_J13_bitCount_95d88 h) (fun r4 => ?_)
    exact mv_iret hQ dX5_now_90
  refine mv_case (fun e5 => ?_) (fun n5 => ?_)
  · refine mv_tsin 5 91 e5 dX5_now_1 (by decide) (by decide) rfl (by decide) ?_
    refine mv_aload_n 0 dX5_now_91 rfl rfl ?_
    refine mg_X5_0 fl_X5_10 dX5_now_92 ?_
    refine mv_cVri (As := []) (st := []) cal_X4_breaking ins_X4_breaking ml_X5_149 rfl (by decide) rfl rfl (by decide) rfl (Nat.le_of_ble_eq_true rfl) dX5_now_95 (fun r h => co_X4_breaking rfl h) (fun r5 => ?_)
    exact mv_iret hQ dX5_now_98
  refine mv_case (fun e6 => ?_) (fun n6 => ?_)
  · refine mv_tsin 6 99 e6 dX5_now_1 (by decide) (by decide) rfl (by decide) ?_
    refine mv_aload_n 0 dX5_now_99 rfl rfl ?_
    refine mg_X5_0 fl_X5_10 dX5_now_100 ?_
    refine mv_cVri (As := []) (st := []) cal_X4_marksInForce ins_X4_marksInForce ml_X5_152 rfl (by decide) rfl rfl (by decide) rfl (Nat.le_of_ble_eq_true rfl) dX5_now_103 (fun r h => co_X4_marksInForce rfl h) (fun r6 => ?_)
    exact mv_iret hQ dX5_now_106
  refine mv_case (fun e7 => ?_) (fun n7 => ?_)
  · refine mv_tsin 7 107 e7 dX5_now_1 (by decide) (by decide) rfl (by decide) ?_
    refine mv_aload_n 0 dX5_now_107 rfl rfl ?_
    refine mg_X5_0 fl_X5_10 dX5_now_108 ?_
    refine mv_cVri (As := []) (st := []) cal_X4_longestHeld ins_X4_longestHeld ml_X5_155 rfl (by decide) rfl rfl (by decide) rfl (Nat.le_of_ble_eq_true rfl) dX5_now_111 (fun r h => co_X4_longestHeld rfl h) (fun r7 => ?_)
    exact mv_iret hQ dX5_now_114
  refine mv_tsout 115 (by have z0 := mt_ne (z := 0) n0 (by decide); have z1 := mt_ne (z := 1) n1 (by decide); have z2 := mt_ne (z := 2) n2 (by decide); have z3 := mt_ne (z := 3) n3 (by decide); have z4 := mt_ne (z := 4) n4 (by decide); have z5 := mt_ne (z := 5) n5 (by decide); have z6 := mt_ne (z := 6) n6 (by decide); have z7 := mt_ne (z := 7) n7 (by decide); omega) dX5_now_1 (by decide) ?_
  refine mv_aload_n 0 dX5_now_115 rfl rfl ?_
  refine mv_iconst (v := 0) dX5_now_116 ic_0 ?_
  refine mv_cVwi (As := [.int (0 : Int32)]) (st := []) cal_X5_finding ins_X5_finding ml_X5_71 rfl (by decide) rfl rfl (by decide) rfl (Nat.le_of_ble_eq_true rfl) dX5_now_117 (fun r s h => co_X5_finding h) (fun r8 s9 => ?_)
  exact mv_iret hQ dX5_now_120
theorem co_X5_now {l : Launch} {G : mt_G} {fu : Nat} {σ : mt_St} {a1 : Int32} {r : Int32} {σf : mt_St}  (h : fX5_now fu σ a1 = some (r, σf)) : mt_Con l G yX5_now cX5_now 2 (some .int) 3 [.ref (mt_adr G 0), .int a1] σ (some (.int r)) σf :=
  mt_con (by decide) (Nat.le_of_ble_eq_true rfl) (fun K hl hG hQ => by subst hl; subst hG; exact fun _ => vX5_now  hQ h)
theorem dX5_foreseeUps_0 : decode cX5_foreseeUps 0 = .ok (.aload_n 0, 1) := by decide +kernel
theorem dX5_foreseeUps_1 : decode cX5_foreseeUps 1 = .ok (.getfield 10, 3) := by decide +kernel
theorem dX5_foreseeUps_4 : decode cX5_foreseeUps 4 = .ok (.getfield 82, 3) := by decide +kernel
theorem dX5_foreseeUps_7 : decode cX5_foreseeUps 7 = .ok (.istore_n 2, 1) := by decide +kernel
theorem dX5_foreseeUps_8 : decode cX5_foreseeUps 8 = .ok (.aload_n 0, 1) := by decide +kernel
theorem dX5_foreseeUps_9 : decode cX5_foreseeUps 9 = .ok (.getfield 10, 3) := by decide +kernel
theorem dX5_foreseeUps_12 : decode cX5_foreseeUps 12 = .ok (.getfield 125, 3) := by decide +kernel
theorem dX5_foreseeUps_15 : decode cX5_foreseeUps 15 = .ok (.istore_n 3, 1) := by decide +kernel
theorem dX5_foreseeUps_16 : decode cX5_foreseeUps 16 = .ok (.iconst 0, 1) := by decide +kernel
theorem dX5_foreseeUps_17 : decode cX5_foreseeUps 17 = .ok (.istore 4, 2) := by decide +kernel
theorem dX5_foreseeUps_19 : decode cX5_foreseeUps 19 = .ok (.iload 4, 2) := by decide +kernel
theorem dX5_foreseeUps_21 : decode cX5_foreseeUps 21 = .ok (.iload_n 1, 1) := by decide +kernel
theorem dX5_foreseeUps_22 : decode cX5_foreseeUps 22 = .ok (.if_icmp .ge 51, 3) := by decide +kernel
theorem dX5_foreseeUps_25 : decode cX5_foreseeUps 25 = .ok (.iload 4, 2) := by decide +kernel
theorem dX5_foreseeUps_27 : decode cX5_foreseeUps 27 = .ok (.sipush 200, 3) := by decide +kernel
theorem dX5_foreseeUps_30 : decode cX5_foreseeUps 30 = .ok (.if_icmp .ge 43, 3) := by decide +kernel
theorem dX5_foreseeUps_33 : decode cX5_foreseeUps 33 = .ok (.iload_n 2, 1) := by decide +kernel
theorem dX5_foreseeUps_34 : decode cX5_foreseeUps 34 = .ok (.aload_n 0, 1) := by decide +kernel
theorem dX5_foreseeUps_35 : decode cX5_foreseeUps 35 = .ok (.getfield 10, 3) := by decide +kernel
theorem dX5_foreseeUps_38 : decode cX5_foreseeUps 38 = .ok (.getfield 85, 3) := by decide +kernel
theorem dX5_foreseeUps_41 : decode cX5_foreseeUps 41 = .ok (.iload_n 3, 1) := by decide +kernel
theorem dX5_foreseeUps_42 : decode cX5_foreseeUps 42 = .ok (.bipush 6, 2) := by decide +kernel
theorem dX5_foreseeUps_44 : decode cX5_foreseeUps 44 = .ok (.irem, 1) := by decide +kernel
theorem dX5_foreseeUps_45 : decode cX5_foreseeUps 45 = .ok (.iaload, 1) := by decide +kernel
theorem dX5_foreseeUps_46 : decode cX5_foreseeUps 46 = .ok (.invokestatic 302, 3) := by decide +kernel
theorem dX5_foreseeUps_49 : decode cX5_foreseeUps 49 = .ok (.istore_n 2, 1) := by decide +kernel
theorem dX5_foreseeUps_50 : decode cX5_foreseeUps 50 = .ok (.aload_n 0, 1) := by decide +kernel
theorem dX5_foreseeUps_51 : decode cX5_foreseeUps 51 = .ok (.getfield 33, 3) := by decide +kernel
theorem dX5_foreseeUps_54 : decode cX5_foreseeUps 54 = .ok (.iload 4, 2) := by decide +kernel
theorem dX5_foreseeUps_56 : decode cX5_foreseeUps 56 = .ok (.iload_n 2, 1) := by decide +kernel
theorem dX5_foreseeUps_57 : decode cX5_foreseeUps 57 = .ok (.iastore, 1) := by decide +kernel
theorem dX5_foreseeUps_58 : decode cX5_foreseeUps 58 = .ok (.iload_n 3, 1) := by decide +kernel
theorem dX5_foreseeUps_59 : decode cX5_foreseeUps 59 = .ok (.iconst 1, 1) := by decide +kernel
theorem dX5_foreseeUps_60 : decode cX5_foreseeUps 60 = .ok (.iadd, 1) := by decide +kernel
theorem dX5_foreseeUps_61 : decode cX5_foreseeUps 61 = .ok (.ldc 128, 2) := by decide +kernel
theorem dX5_foreseeUps_63 : decode cX5_foreseeUps 63 = .ok (.invokestatic 287, 3) := by decide +kernel
theorem dX5_foreseeUps_66 : decode cX5_foreseeUps 66 = .ok (.istore_n 3, 1) := by decide +kernel
theorem dX5_foreseeUps_67 : decode cX5_foreseeUps 67 = .ok (.iinc 4 1, 3) := by decide +kernel
theorem dX5_foreseeUps_70 : decode cX5_foreseeUps 70 = .ok (.goto (-51), 3) := by decide +kernel
theorem dX5_foreseeUps_73 : decode cX5_foreseeUps 73 = .ok (.return_, 1) := by decide +kernel
def bX5_foreseeUps_73 (fu : Nat) (σ : mt_St) : Option (Unit × mt_St) :=
  some ((), σ)
set_option maxHeartbeats 4000000 in
set_option maxRecDepth 20000 in
theorem vX5_foreseeUps_73 {K : mt_C} {fu : Nat} {r : Unit} {σf : mt_St} (hQ : mt_R K none none σf) : ∀ (σ : mt_St), mt_V K cX5_foreseeUps RX5 5 1 σ 73 [] [] (bX5_foreseeUps_73 fu σ = some (r, σf)) := by
  intro σ
  unfold bX5_foreseeUps_73
  exact mv_vret hQ dX5_foreseeUps_73
def bX5_foreseeUps_19 (fu : Nat) : Nat → mt_St → Int32 → Int32 → Int32 → Int32 → Option (Unit × mt_St)
  | 0, _, _, _, _, _ => none
  | n + 1, σ, x1, x2, x3, x4 =>
    if x1 ≤ x4 then
      bX5_foreseeUps_73 fu σ
    else
      if (200 : Int32) ≤ x4 then
        bX5_foreseeUps_73 fu σ
      else
        mt_chk (mt_in (x3 - x3 / (6 : Int32) * (6 : Int32)) 6) <|
        mt_ask (fX5_toggled fu x2 (σ (1 + 1) (Int32.toNatClampNeg (x3 - x3 / (6 : Int32) * (6 : Int32))))) fun r1 =>
        mt_chk (mt_in x4 200) <|
        mt_bnd (mt_up σ 38 (Int32.toNatClampNeg x4) r1) fun s2 =>
        bX5_foreseeUps_19 fu n s2 x1 r1 (mt_min (x3 + (1 : Int32)) (99999 : Int32)) (x4 + 1)
set_option maxHeartbeats 4000000 in
set_option maxRecDepth 20000 in
theorem vX5_foreseeUps_19 {K : mt_C} {fu : Nat} {r : Unit} {σf : mt_St} (hQ : mt_R K none none σf) : ∀ (n : Nat) (σ : mt_St) (x1 : Int32) (x2 : Int32) (x3 : Int32) (x4 : Int32), mt_V K cX5_foreseeUps RX5 5 1 σ 19 [(0, .ref (mt_adr (kG K) 0)), (1, .int x1), (2, .int x2), (3, .int x3), (4, .int x4)] [] (bX5_foreseeUps_19 fu n σ x1 x2 x3 x4 = some (r, σf)) := by
  intro n
  induction n with
  | zero => intro σ x1 x2 x3 x4; intro hP; unfold bX5_foreseeUps_19 at hP; cases hP
  | succ n ih =>
    intro σ x1 x2 x3 x4
    unfold bX5_foreseeUps_19
    refine mv_iload 4 dX5_foreseeUps_19 rfl ?_
    refine mv_iload_n 1 dX5_foreseeUps_21 rfl rfl ?_
    refine mv_icmp_ge 73 dX5_foreseeUps_22 (by decide) ?_ ?_
    · refine mv_sub (lv' := []) [] rfl ?_
      exact vX5_foreseeUps_73 hQ σ
    · refine mv_iload 4 dX5_foreseeUps_25 rfl ?_
      refine mv_sipush (v := 200) dX5_foreseeUps_27 sp_200 ?_
      refine mv_icmp_ge 73 dX5_foreseeUps_30 (by decide) ?_ ?_
      · refine mv_sub (lv' := []) [] rfl ?_
        exact vX5_foreseeUps_73 hQ σ
      · refine mv_iload_n 2 dX5_foreseeUps_33 rfl rfl ?_
        refine mv_aload_n 0 dX5_foreseeUps_34 rfl rfl ?_
        refine mg_X5_0 fl_X5_10 dX5_foreseeUps_35 ?_
        refine mg_X4_2 rfl fl_X5_85 dX5_foreseeUps_38 ?_
        refine mv_iload_n 3 dX5_foreseeUps_41 rfl rfl ?_
        refine mv_bipush (v := 6) dX5_foreseeUps_42 bp_6 ?_
        refine mv_irem dX5_foreseeUps_44 (by decide) ?_
        refine mv_iald 6 (kd_w1 rfl) (ln_w1 rfl) dX5_foreseeUps_45 ?_
        refine mv_cSri (As := [.int x2, .int (σ (1 + 1) (Int32.toNatClampNeg (x3 - x3 / (6 : Int32) * (6 : Int32))))]) (st := []) cal_X5_toggled sta_X5_toggled ml_X5_302 rfl (by decide) rfl (Nat.le_of_ble_eq_true rfl) dX5_foreseeUps_46 (fun r h => co_X5_toggled h) (fun r1 => ?_)
        refine mv_istore_n (lv' := [(0, .ref (mt_adr (kG K) 0)), (1, .int x1), (2, .int r1), (3, .int x3), (4, .int x4)]) [1, 2, 0, 3, 4] dX5_foreseeUps_49 rfl (by decide) rfl ?_
        refine mv_aload_n 0 dX5_foreseeUps_50 rfl rfl ?_
        refine mg_X5_5 fl_X5_33 dX5_foreseeUps_51 ?_
        refine mv_iload 4 dX5_foreseeUps_54 rfl ?_
        refine mv_iload_n 2 dX5_foreseeUps_56 rfl rfl ?_
        refine mv_iast 200 rfl rfl dX5_foreseeUps_57 (fun s2 => ?_)
        refine mv_iload_n 3 dX5_foreseeUps_58 rfl rfl ?_
        refine mv_iconst (v := 1) dX5_foreseeUps_59 ic_1 ?_
        refine mv_iadd dX5_foreseeUps_60 ?_
        refine mv_ldc kc_X5_128 dX5_foreseeUps_61 ?_
        refine mv_mmin mm_X5_287 (by decide) (Nat.le_of_ble_eq_true rfl) dX5_foreseeUps_63 ?_
        refine mv_istore_n (lv' := [(0, .ref (mt_adr (kG K) 0)), (1, .int x1), (2, .int r1), (3, .int (mt_min (x3 + (1 : Int32)) (99999 : Int32))), (4, .int x4)]) [1, 2, 3, 0, 4] dX5_foreseeUps_66 rfl (by decide) rfl ?_
        refine mv_iinc (k0 := 4) (v := x4 + 1) (lv' := [(0, .ref (mt_adr (kG K) 0)), (1, .int x1), (2, .int r1), (3, .int (mt_min (x3 + (1 : Int32)) (99999 : Int32))), (4, .int (x4 + 1))]) [1, 2, 3, 4, 0] dX5_foreseeUps_67 rfl (mt_inc ic_1) (by decide) rfl ?_
        refine mv_goto 19 dX5_foreseeUps_70 (by decide) ?_
        exact ih s2 x1 r1 (mt_min (x3 + (1 : Int32)) (99999 : Int32)) (x4 + 1)
def fX5_foreseeUps (fu : Nat) (σ : mt_St) (a1 : Int32) : Option (Unit × mt_St) :=
  bX5_foreseeUps_19 fu fu σ a1 (σ 1 1) (σ 1 4) (0 : Int32)
set_option maxHeartbeats 4000000 in
set_option maxRecDepth 20000 in
theorem vX5_foreseeUps {K : mt_C} {fu : Nat} {σ : mt_St} {a1 : Int32} {r : Unit} {σf : mt_St} (hQ : mt_R K none none σf) : mt_V K cX5_foreseeUps RX5 5 1 σ 0 [(0, .ref (mt_adr (kG K) 0)), (1, .int a1)] [] (fX5_foreseeUps fu σ a1 = some (r, σf)) := by
  unfold fX5_foreseeUps
  refine mv_aload_n 0 dX5_foreseeUps_0 rfl rfl ?_
  refine mg_X5_0 fl_X5_10 dX5_foreseeUps_1 ?_
  refine mg_X4_1 rfl fl_X5_82 dX5_foreseeUps_4 ?_
  refine mv_istore_n (lv' := [(0, .ref (mt_adr (kG K) 0)), (1, .int a1), (2, .int (σ 1 1))]) [1, 2, 0] dX5_foreseeUps_7 rfl (by decide) rfl ?_
  refine mv_aload_n 0 dX5_foreseeUps_8 rfl rfl ?_
  refine mg_X5_0 fl_X5_10 dX5_foreseeUps_9 ?_
  refine mg_X4_4 rfl fl_X5_125 dX5_foreseeUps_12 ?_
  refine mv_istore_n (lv' := [(0, .ref (mt_adr (kG K) 0)), (1, .int a1), (2, .int (σ 1 1)), (3, .int (σ 1 4))]) [1, 2, 3, 0] dX5_foreseeUps_15 rfl (by decide) rfl ?_
  refine mv_iconst (v := 0) dX5_foreseeUps_16 ic_0 ?_
  refine mv_istore (lv' := [(0, .ref (mt_adr (kG K) 0)), (1, .int a1), (2, .int (σ 1 1)), (3, .int (σ 1 4)), (4, .int (0 : Int32))]) [1, 2, 3, 4, 0] dX5_foreseeUps_17 (by decide) rfl ?_
  exact vX5_foreseeUps_19 hQ fu σ a1 (σ 1 1) (σ 1 4) (0 : Int32)
theorem co_X5_foreseeUps {l : Launch} {G : mt_G} {fu : Nat} {σ : mt_St} {a1 : Int32} {r : Unit} {σf : mt_St}  (h : fX5_foreseeUps fu σ a1 = some (r, σf)) : mt_Con l G yX5_foreseeUps cX5_foreseeUps 5 none 1 [.ref (mt_adr G 0), .int a1] σ none σf :=
  mt_con (by decide) (Nat.le_of_ble_eq_true rfl) (fun K hl hG hQ => by subst hl; subst hG; exact fun _ => vX5_foreseeUps  hQ h)
theorem dX5_tryAlone_0 : decode cX5_tryAlone 0 = .ok (.aload_n 0, 1) := by decide +kernel
theorem dX5_tryAlone_1 : decode cX5_tryAlone 1 = .ok (.iload_n 1, 1) := by decide +kernel
theorem dX5_tryAlone_2 : decode cX5_tryAlone 2 = .ok (.invokevirtual 98, 3) := by decide +kernel
theorem dX5_tryAlone_5 : decode cX5_tryAlone 5 = .ok (.ifCond .eq 19, 3) := by decide +kernel
theorem dX5_tryAlone_8 : decode cX5_tryAlone 8 = .ok (.aload_n 0, 1) := by decide +kernel
theorem dX5_tryAlone_9 : decode cX5_tryAlone 9 = .ok (.getfield 29, 3) := by decide +kernel
theorem dX5_tryAlone_12 : decode cX5_tryAlone 12 = .ok (.aload_n 0, 1) := by decide +kernel
theorem dX5_tryAlone_13 : decode cX5_tryAlone 13 = .ok (.getfield 10, 3) := by decide +kernel
theorem dX5_tryAlone_16 : decode cX5_tryAlone 16 = .ok (.getfield 102, 3) := by decide +kernel
theorem dX5_tryAlone_19 : decode cX5_tryAlone 19 = .ok (.iload_n 1, 1) := by decide +kernel
theorem dX5_tryAlone_20 : decode cX5_tryAlone 20 = .ok (.aaload, 1) := by decide +kernel
theorem dX5_tryAlone_21 : decode cX5_tryAlone 21 = .ok (.invokevirtual 299, 3) := by decide +kernel
theorem dX5_tryAlone_24 : decode cX5_tryAlone 24 = .ok (.return_, 1) := by decide +kernel
def bX5_tryAlone_24 (fu : Nat) (σ : mt_St) : Option (Unit × mt_St) :=
  some ((), σ)
set_option maxHeartbeats 4000000 in
set_option maxRecDepth 20000 in
theorem vX5_tryAlone_24 {K : mt_C} {fu : Nat} {r : Unit} {σf : mt_St} (hQ : mt_R K none none σf) : ∀ (σ : mt_St), mt_V K cX5_tryAlone RX5 2 2 σ 24 [] [] (bX5_tryAlone_24 fu σ = some (r, σf)) := by
  intro σ
  unfold bX5_tryAlone_24
  exact mv_vret hQ dX5_tryAlone_24
def fX5_tryAlone (fu : Nat) (σ : mt_St) (a1 : Int32) : Option (Unit × mt_St) :=
  mt_ask (fX5_isTreaty fu σ a1) fun r1 =>
  if r1 = 0 then
    bX5_tryAlone_24 fu σ
  else
    mt_chk (mt_in a1 8) <|
    mt_call (fX3_become fu σ 37 ((1 + 2) + 2 + Int32.toNatClampNeg a1)) fun _ s4 =>
    bX5_tryAlone_24 fu s4
set_option maxHeartbeats 4000000 in
set_option maxRecDepth 20000 in
theorem vX5_tryAlone {K : mt_C} {fu : Nat} {σ : mt_St} {a1 : Int32} {r : Unit} {σf : mt_St} (hQ : mt_R K none none σf) : mt_V K cX5_tryAlone RX5 2 2 σ 0 [(0, .ref (mt_adr (kG K) 0)), (1, .int a1)] [] (fX5_tryAlone fu σ a1 = some (r, σf)) := by
  unfold fX5_tryAlone
  refine mv_aload_n 0 dX5_tryAlone_0 rfl rfl ?_
  refine mv_iload_n 1 dX5_tryAlone_1 rfl rfl ?_
  refine mv_cVri (As := [.int a1]) (st := []) cal_X5_isTreaty ins_X5_isTreaty ml_X5_98 rfl (by decide) rfl rfl (by decide) rfl (Nat.le_of_ble_eq_true rfl) dX5_tryAlone_2 (fun r h => co_X5_isTreaty h) (fun r1 => ?_)
  refine mv_if_eq 24 dX5_tryAlone_5 (by decide) ?_ ?_
  · refine mv_sub (lv' := []) [] rfl ?_
    exact vX5_tryAlone_24 hQ σ
  · refine mv_aload_n 0 dX5_tryAlone_8 rfl rfl ?_
    refine mg_X5_4 fl_X5_29 dX5_tryAlone_9 ?_
    refine mv_aload_n 0 dX5_tryAlone_12 rfl rfl ?_
    refine mg_X5_0 fl_X5_10 dX5_tryAlone_13 ?_
    refine mg_X4_6 rfl fl_X5_102 dX5_tryAlone_16 ?_
    refine mv_iload_n 1 dX5_tryAlone_19 rfl rfl ?_
    refine mv_aaldT (kd_w2 rfl) (ln_w2 rfl) dX5_tryAlone_20 (fun h2 => ?_)
    refine mv_cVwv (As := [.ref (mt_adr (kG K) ((1 + 2) + 2 + Int32.toNatClampNeg a1))]) (st := []) cal_X3_become ins_X3_become ml_X5_299 rfl (by decide) rfl rfl (by decide) rfl (Nat.le_of_ble_eq_true rfl) dX5_tryAlone_21 (fun r s h => co_X3_become rfl (kd_tr (kd_w2 rfl) h2) h) (fun r3 s4 => ?_)
    refine mv_sub (lv' := []) [] rfl ?_
    exact vX5_tryAlone_24 hQ s4
theorem co_X5_tryAlone {l : Launch} {G : mt_G} {fu : Nat} {σ : mt_St} {a1 : Int32} {r : Unit} {σf : mt_St}  (h : fX5_tryAlone fu σ a1 = some (r, σf)) : mt_Con l G yX5_tryAlone cX5_tryAlone 2 none 2 [.ref (mt_adr G 0), .int a1] σ none σf :=
  mt_con (by decide) (Nat.le_of_ble_eq_true rfl) (fun K hl hG hQ => by subst hl; subst hG; exact fun _ => vX5_tryAlone  hQ h)
theorem dX5_ahead_0 : decode cX5_ahead 0 = .ok (.iload_n 2, 1) := by decide +kernel
theorem dX5_ahead_1 : decode cX5_ahead 1 = .ok (.iconst 3, 1) := by decide +kernel
theorem dX5_ahead_2 : decode cX5_ahead 2 = .ok (.if_icmp .lt 9, 3) := by decide +kernel
theorem dX5_ahead_5 : decode cX5_ahead 5 = .ok (.iload_n 2, 1) := by decide +kernel
theorem dX5_ahead_6 : decode cX5_ahead 6 = .ok (.bipush 7, 2) := by decide +kernel
theorem dX5_ahead_8 : decode cX5_ahead 8 = .ok (.if_icmp .le 9, 3) := by decide +kernel
theorem dX5_ahead_11 : decode cX5_ahead 11 = .ok (.iload_n 2, 1) := by decide +kernel
theorem dX5_ahead_12 : decode cX5_ahead 12 = .ok (.bipush 10, 2) := by decide +kernel
theorem dX5_ahead_14 : decode cX5_ahead 14 = .ok (.if_icmp .ne 7, 3) := by decide +kernel
theorem dX5_ahead_17 : decode cX5_ahead 17 = .ok (.iconst 1, 1) := by decide +kernel
theorem dX5_ahead_18 : decode cX5_ahead 18 = .ok (.goto 4, 3) := by decide +kernel
theorem dX5_ahead_21 : decode cX5_ahead 21 = .ok (.iconst 0, 1) := by decide +kernel
theorem dX5_ahead_22 : decode cX5_ahead 22 = .ok (.istore 4, 2) := by decide +kernel
theorem dX5_ahead_24 : decode cX5_ahead 24 = .ok (.aload_n 0, 1) := by decide +kernel
theorem dX5_ahead_25 : decode cX5_ahead 25 = .ok (.iload_n 1, 1) := by decide +kernel
theorem dX5_ahead_26 : decode cX5_ahead 26 = .ok (.invokevirtual 98, 3) := by decide +kernel
theorem dX5_ahead_29 : decode cX5_ahead 29 = .ok (.ifCond .eq 17, 3) := by decide +kernel
theorem dX5_ahead_32 : decode cX5_ahead 32 = .ok (.iload 4, 2) := by decide +kernel
theorem dX5_ahead_34 : decode cX5_ahead 34 = .ok (.ifCond .eq 12, 3) := by decide +kernel
theorem dX5_ahead_37 : decode cX5_ahead 37 = .ok (.iload_n 3, 1) := by decide +kernel
theorem dX5_ahead_38 : decode cX5_ahead 38 = .ok (.bipush 100, 2) := by decide +kernel
theorem dX5_ahead_40 : decode cX5_ahead 40 = .ok (.invokestatic 67, 3) := by decide +kernel
theorem dX5_ahead_43 : decode cX5_ahead 43 = .ok (.ifCond .ne 9, 3) := by decide +kernel
theorem dX5_ahead_46 : decode cX5_ahead 46 = .ok (.aload_n 0, 1) := by decide +kernel
theorem dX5_ahead_47 : decode cX5_ahead 47 = .ok (.iconst 0, 1) := by decide +kernel
theorem dX5_ahead_48 : decode cX5_ahead 48 = .ok (.invokevirtual 71, 3) := by decide +kernel
theorem dX5_ahead_51 : decode cX5_ahead 51 = .ok (.ireturn, 1) := by decide +kernel
theorem dX5_ahead_52 : decode cX5_ahead 52 = .ok (.aload_n 0, 1) := by decide +kernel
theorem dX5_ahead_53 : decode cX5_ahead 53 = .ok (.iload_n 3, 1) := by decide +kernel
theorem dX5_ahead_54 : decode cX5_ahead 54 = .ok (.invokevirtual 158, 3) := by decide +kernel
theorem dX5_ahead_57 : decode cX5_ahead 57 = .ok (.aload_n 0, 1) := by decide +kernel
theorem dX5_ahead_58 : decode cX5_ahead 58 = .ok (.iload_n 1, 1) := by decide +kernel
theorem dX5_ahead_59 : decode cX5_ahead 59 = .ok (.invokevirtual 161, 3) := by decide +kernel
theorem dX5_ahead_62 : decode cX5_ahead 62 = .ok (.aload_n 0, 1) := by decide +kernel
theorem dX5_ahead_63 : decode cX5_ahead 63 = .ok (.getfield 29, 3) := by decide +kernel
theorem dX5_ahead_66 : decode cX5_ahead 66 = .ok (.aload_n 0, 1) := by decide +kernel
theorem dX5_ahead_67 : decode cX5_ahead 67 = .ok (.getfield 33, 3) := by decide +kernel
theorem dX5_ahead_70 : decode cX5_ahead 70 = .ok (.iload_n 3, 1) := by decide +kernel
theorem dX5_ahead_71 : decode cX5_ahead 71 = .ok (.aload_n 0, 1) := by decide +kernel
theorem dX5_ahead_72 : decode cX5_ahead 72 = .ok (.getfield 10, 3) := by decide +kernel
theorem dX5_ahead_75 : decode cX5_ahead 75 = .ok (.getfield 78, 3) := by decide +kernel
theorem dX5_ahead_78 : decode cX5_ahead 78 = .ok (.invokevirtual 164, 3) := by decide +kernel
theorem dX5_ahead_81 : decode cX5_ahead 81 = .ok (.pop, 1) := by decide +kernel
theorem dX5_ahead_82 : decode cX5_ahead 82 = .ok (.aload_n 0, 1) := by decide +kernel
theorem dX5_ahead_83 : decode cX5_ahead 83 = .ok (.getfield 29, 3) := by decide +kernel
theorem dX5_ahead_86 : decode cX5_ahead 86 = .ok (.iload_n 2, 1) := by decide +kernel
theorem dX5_ahead_87 : decode cX5_ahead 87 = .ok (.aload_n 0, 1) := by decide +kernel
theorem dX5_ahead_88 : decode cX5_ahead 88 = .ok (.getfield 10, 3) := by decide +kernel
theorem dX5_ahead_91 : decode cX5_ahead 91 = .ok (.getfield 82, 3) := by decide +kernel
theorem dX5_ahead_94 : decode cX5_ahead 94 = .ok (.invokevirtual 106, 3) := by decide +kernel
theorem dX5_ahead_97 : decode cX5_ahead 97 = .ok (.ireturn, 1) := by decide +kernel
def bX5_ahead_46 (fu : Nat) (σ : mt_St) : Option (Int32 × mt_St) :=
  mt_call (fX5_finding fu σ (0 : Int32)) fun r1 s2 =>
  some (r1, s2)
set_option maxHeartbeats 4000000 in
set_option maxRecDepth 20000 in
theorem vX5_ahead_46 {K : mt_C} {fu : Nat} {r : Int32} {σf : mt_St} (hQ : mt_R K (some .int) (some (.int r)) σf) : ∀ (σ : mt_St), mt_V K cX5_ahead RX5 5 5 σ 46 [(0, .ref (mt_adr (kG K) 0))] [] (bX5_ahead_46 fu σ = some (r, σf)) := by
  intro σ
  unfold bX5_ahead_46
  refine mv_aload_n 0 dX5_ahead_46 rfl rfl ?_
  refine mv_iconst (v := 0) dX5_ahead_47 ic_0 ?_
  refine mv_cVwi (As := [.int (0 : Int32)]) (st := []) cal_X5_finding ins_X5_finding ml_X5_71 rfl (by decide) rfl rfl (by decide) rfl (Nat.le_of_ble_eq_true rfl) dX5_ahead_48 (fun r s h => co_X5_finding h) (fun r1 s2 => ?_)
  exact mv_iret hQ dX5_ahead_51
def bX5_ahead_22 (fu : Nat) (σ : mt_St) (x1 : Int32) (x2 : Int32) (x3 : Int32) (y0 : Int32) : Option (Int32 × mt_St) :=
  mt_ask (fX5_isTreaty fu σ x1) fun r1 =>
  if r1 = 0 then
    bX5_ahead_46 fu σ
  else
    if y0 = 0 then
      bX5_ahead_46 fu σ
    else
      mt_ask (fX5_isWithin fu x3 (100 : Int32)) fun r2 =>
      if r2 = 0 then
        bX5_ahead_46 fu σ
      else
        mt_call (fX5_foreseeUps fu σ x3) fun _ s4 =>
        mt_call (fX5_tryAlone fu s4 x1) fun _ s6 =>
        mt_call (fX3_liveYears fu s6 37 x3 (s6 1 0)) fun r7 s8 =>
        mt_ask (fX3_tell fu s8 37 x2 (s8 1 1)) fun r9 =>
        some (r9, s8)
set_option maxHeartbeats 4000000 in
set_option maxRecDepth 20000 in
theorem vX5_ahead_22 {K : mt_C} {fu : Nat} {r : Int32} {σf : mt_St} (hQ : mt_R K (some .int) (some (.int r)) σf) : ∀ (σ : mt_St) (x1 : Int32) (x2 : Int32) (x3 : Int32) (y0 : Int32), mt_V K cX5_ahead RX5 5 5 σ 22 [(0, .ref (mt_adr (kG K) 0)), (1, .int x1), (2, .int x2), (3, .int x3)] [.int y0] (bX5_ahead_22 fu σ x1 x2 x3 y0 = some (r, σf)) := by
  intro σ x1 x2 x3 y0
  unfold bX5_ahead_22
  refine mv_istore (lv' := [(0, .ref (mt_adr (kG K) 0)), (1, .int x1), (2, .int x2), (3, .int x3), (4, .int y0)]) [1, 2, 3, 4, 0] dX5_ahead_22 (by decide) rfl ?_
  refine mv_aload_n 0 dX5_ahead_24 rfl rfl ?_
  refine mv_iload_n 1 dX5_ahead_25 rfl rfl ?_
  refine mv_cVri (As := [.int x1]) (st := []) cal_X5_isTreaty ins_X5_isTreaty ml_X5_98 rfl (by decide) rfl rfl (by decide) rfl (Nat.le_of_ble_eq_true rfl) dX5_ahead_26 (fun r h => co_X5_isTreaty h) (fun r1 => ?_)
  refine mv_if_eq 46 dX5_ahead_29 (by decide) ?_ ?_
  · refine mv_sub (lv' := [(0, .ref (mt_adr (kG K) 0))]) [0] rfl ?_
    exact vX5_ahead_46 hQ σ
  · refine mv_iload 4 dX5_ahead_32 rfl ?_
    refine mv_if_eq 46 dX5_ahead_34 (by decide) ?_ ?_
    · refine mv_sub (lv' := [(0, .ref (mt_adr (kG K) 0))]) [0] rfl ?_
      exact vX5_ahead_46 hQ σ
    · refine mv_iload_n 3 dX5_ahead_37 rfl rfl ?_
      refine mv_bipush (v := 100) dX5_ahead_38 bp_100 ?_
      refine mv_cSri (As := [.int x3, .int (100 : Int32)]) (st := []) cal_X5_isWithin sta_X5_isWithin ml_X5_67 rfl (by decide) rfl (Nat.le_of_ble_eq_true rfl) dX5_ahead_40 (fun r h => co_X5_isWithin h) (fun r2 => ?_)
      refine mv_if_ne 52 dX5_ahead_43 (by decide) ?_ ?_
      · refine mv_aload_n 0 dX5_ahead_52 rfl rfl ?_
        refine mv_iload_n 3 dX5_ahead_53 rfl rfl ?_
        refine mv_cVwv (As := [.int x3]) (st := []) cal_X5_foreseeUps ins_X5_foreseeUps ml_X5_158 rfl (by decide) rfl rfl (by decide) rfl (Nat.le_of_ble_eq_true rfl) dX5_ahead_54 (fun r s h => co_X5_foreseeUps h) (fun r3 s4 => ?_)
        refine mv_aload_n 0 dX5_ahead_57 rfl rfl ?_
        refine mv_iload_n 1 dX5_ahead_58 rfl rfl ?_
        refine mv_cVwv (As := [.int x1]) (st := []) cal_X5_tryAlone ins_X5_tryAlone ml_X5_161 rfl (by decide) rfl rfl (by decide) rfl (Nat.le_of_ble_eq_true rfl) dX5_ahead_59 (fun r s h => co_X5_tryAlone h) (fun r5 s6 => ?_)
        refine mv_aload_n 0 dX5_ahead_62 rfl rfl ?_
        refine mg_X5_4 fl_X5_29 dX5_ahead_63 ?_
        refine mv_aload_n 0 dX5_ahead_66 rfl rfl ?_
        refine mg_X5_5 fl_X5_33 dX5_ahead_67 ?_
        refine mv_iload_n 3 dX5_ahead_70 rfl rfl ?_
        refine mv_aload_n 0 dX5_ahead_71 rfl rfl ?_
        refine mg_X5_0 fl_X5_10 dX5_ahead_72 ?_
        refine mg_X4_0 rfl fl_X5_78 dX5_ahead_75 ?_
        refine mv_cVwi (As := [.ref (mt_adr (kG K) 38), .int x3, .int (s6 1 0)]) (st := []) cal_X3_liveYears ins_X3_liveYears ml_X5_164 rfl (by decide) rfl rfl (by decide) rfl (Nat.le_of_ble_eq_true rfl) dX5_ahead_78 (fun r s h => co_X3_liveYears rfl h) (fun r7 s8 => ?_)
        refine mv_pop dX5_ahead_81 rfl ?_
        refine mv_aload_n 0 dX5_ahead_82 rfl rfl ?_
        refine mg_X5_4 fl_X5_29 dX5_ahead_83 ?_
        refine mv_iload_n 2 dX5_ahead_86 rfl rfl ?_
        refine mv_aload_n 0 dX5_ahead_87 rfl rfl ?_
        refine mg_X5_0 fl_X5_10 dX5_ahead_88 ?_
        refine mg_X4_1 rfl fl_X5_82 dX5_ahead_91 ?_
        refine mv_cVri (As := [.int x2, .int (s8 1 1)]) (st := []) cal_X3_tell ins_X3_tell ml_X5_106 rfl (by decide) rfl rfl (by decide) rfl (Nat.le_of_ble_eq_true rfl) dX5_ahead_94 (fun r h => co_X3_tell rfl h) (fun r9 => ?_)
        exact mv_iret hQ dX5_ahead_97
      · refine mv_sub (lv' := [(0, .ref (mt_adr (kG K) 0))]) [0] rfl ?_
        exact vX5_ahead_46 hQ σ
def bX5_ahead_17 (fu : Nat) (σ : mt_St) (x1 : Int32) (x2 : Int32) (x3 : Int32) : Option (Int32 × mt_St) :=
  bX5_ahead_22 fu σ x1 x2 x3 (1 : Int32)
set_option maxHeartbeats 4000000 in
set_option maxRecDepth 20000 in
theorem vX5_ahead_17 {K : mt_C} {fu : Nat} {r : Int32} {σf : mt_St} (hQ : mt_R K (some .int) (some (.int r)) σf) : ∀ (σ : mt_St) (x1 : Int32) (x2 : Int32) (x3 : Int32), mt_V K cX5_ahead RX5 5 5 σ 17 [(0, .ref (mt_adr (kG K) 0)), (1, .int x1), (2, .int x2), (3, .int x3)] [] (bX5_ahead_17 fu σ x1 x2 x3 = some (r, σf)) := by
  intro σ x1 x2 x3
  unfold bX5_ahead_17
  refine mv_iconst (v := 1) dX5_ahead_17 ic_1 ?_
  refine mv_goto 22 dX5_ahead_18 (by decide) ?_
  exact vX5_ahead_22 hQ σ x1 x2 x3 (1 : Int32)
def bX5_ahead_11 (fu : Nat) (σ : mt_St) (x1 : Int32) (x2 : Int32) (x3 : Int32) : Option (Int32 × mt_St) :=
  if x2 = (10 : Int32) then
    bX5_ahead_17 fu σ x1 x2 x3
  else
    bX5_ahead_22 fu σ x1 x2 x3 (0 : Int32)
set_option maxHeartbeats 4000000 in
set_option maxRecDepth 20000 in
theorem vX5_ahead_11 {K : mt_C} {fu : Nat} {r : Int32} {σf : mt_St} (hQ : mt_R K (some .int) (some (.int r)) σf) : ∀ (σ : mt_St) (x1 : Int32) (x2 : Int32) (x3 : Int32), mt_V K cX5_ahead RX5 5 5 σ 11 [(0, .ref (mt_adr (kG K) 0)), (1, .int x1), (2, .int x2), (3, .int x3)] [] (bX5_ahead_11 fu σ x1 x2 x3 = some (r, σf)) := by
  intro σ x1 x2 x3
  unfold bX5_ahead_11
  refine mv_iload_n 2 dX5_ahead_11 rfl rfl ?_
  refine mv_bipush (v := 10) dX5_ahead_12 bp_10 ?_
  refine mv_icmp_ne 21 dX5_ahead_14 (by decide) ?_ ?_
  · refine mv_iconst (v := 0) dX5_ahead_21 ic_0 ?_
    exact vX5_ahead_22 hQ σ x1 x2 x3 (0 : Int32)
  · exact vX5_ahead_17 hQ σ x1 x2 x3
def fX5_ahead (fu : Nat) (σ : mt_St) (a1 : Int32) (a2 : Int32) (a3 : Int32) : Option (Int32 × mt_St) :=
  if a2 < (3 : Int32) then
    bX5_ahead_11 fu σ a1 a2 a3
  else
    if a2 ≤ (7 : Int32) then
      bX5_ahead_17 fu σ a1 a2 a3
    else
      bX5_ahead_11 fu σ a1 a2 a3
set_option maxHeartbeats 4000000 in
set_option maxRecDepth 20000 in
theorem vX5_ahead {K : mt_C} {fu : Nat} {σ : mt_St} {a1 : Int32} {a2 : Int32} {a3 : Int32} {r : Int32} {σf : mt_St} (hQ : mt_R K (some .int) (some (.int r)) σf) : mt_V K cX5_ahead RX5 5 5 σ 0 [(0, .ref (mt_adr (kG K) 0)), (1, .int a1), (2, .int a2), (3, .int a3)] [] (fX5_ahead fu σ a1 a2 a3 = some (r, σf)) := by
  unfold fX5_ahead
  refine mv_iload_n 2 dX5_ahead_0 rfl rfl ?_
  refine mv_iconst (v := 3) dX5_ahead_1 ic_3 ?_
  refine mv_icmp_lt 11 dX5_ahead_2 (by decide) ?_ ?_
  · exact vX5_ahead_11 hQ σ a1 a2 a3
  · refine mv_iload_n 2 dX5_ahead_5 rfl rfl ?_
    refine mv_bipush (v := 7) dX5_ahead_6 bp_7 ?_
    refine mv_icmp_le 17 dX5_ahead_8 (by decide) ?_ ?_
    · exact vX5_ahead_17 hQ σ a1 a2 a3
    · exact vX5_ahead_11 hQ σ a1 a2 a3
theorem co_X5_ahead {l : Launch} {G : mt_G} {fu : Nat} {σ : mt_St} {a1 : Int32} {a2 : Int32} {a3 : Int32} {r : Int32} {σf : mt_St}  (h : fX5_ahead fu σ a1 a2 a3 = some (r, σf)) : mt_Con l G yX5_ahead cX5_ahead 5 (some .int) 5 [.ref (mt_adr G 0), .int a1, .int a2, .int a3] σ (some (.int r)) σf :=
  mt_con (by decide) (Nat.le_of_ble_eq_true rfl) (fun K hl hG hQ => by subst hl; subst hG; exact fun _ => vX5_ahead  hQ h)
theorem dX5_gold_0 : decode cX5_gold 0 = .ok (.iload_n 1, 1) := by decide +kernel
theorem dX5_gold_1 : decode cX5_gold 1 = .ok (.bipush 100, 2) := by decide +kernel
theorem dX5_gold_3 : decode cX5_gold 3 = .ok (.invokestatic 67, 3) := by decide +kernel
theorem dX5_gold_6 : decode cX5_gold 6 = .ok (.ifCond .ne 9, 3) := by decide +kernel
theorem dX5_gold_9 : decode cX5_gold 9 = .ok (.aload_n 0, 1) := by decide +kernel
theorem dX5_gold_10 : decode cX5_gold 10 = .ok (.iconst 0, 1) := by decide +kernel
theorem dX5_gold_11 : decode cX5_gold 11 = .ok (.invokevirtual 71, 3) := by decide +kernel
theorem dX5_gold_14 : decode cX5_gold 14 = .ok (.ireturn, 1) := by decide +kernel
theorem dX5_gold_15 : decode cX5_gold 15 = .ok (.aload_n 0, 1) := by decide +kernel
theorem dX5_gold_16 : decode cX5_gold 16 = .ok (.getfield 23, 3) := by decide +kernel
theorem dX5_gold_19 : decode cX5_gold 19 = .ok (.aload_n 0, 1) := by decide +kernel
theorem dX5_gold_20 : decode cX5_gold 20 = .ok (.getfield 10, 3) := by decide +kernel
theorem dX5_gold_23 : decode cX5_gold 23 = .ok (.invokevirtual 168, 3) := by decide +kernel
theorem dX5_gold_26 : decode cX5_gold 26 = .ok (.aload_n 0, 1) := by decide +kernel
theorem dX5_gold_27 : decode cX5_gold 27 = .ok (.getfield 23, 3) := by decide +kernel
theorem dX5_gold_30 : decode cX5_gold 30 = .ok (.iload_n 1, 1) := by decide +kernel
theorem dX5_gold_31 : decode cX5_gold 31 = .ok (.invokevirtual 129, 3) := by decide +kernel
theorem dX5_gold_34 : decode cX5_gold 34 = .ok (.aload_n 0, 1) := by decide +kernel
theorem dX5_gold_35 : decode cX5_gold 35 = .ok (.getfield 23, 3) := by decide +kernel
theorem dX5_gold_38 : decode cX5_gold 38 = .ok (.getfield 137, 3) := by decide +kernel
theorem dX5_gold_41 : decode cX5_gold 41 = .ok (.ireturn, 1) := by decide +kernel
def fX5_gold (fu : Nat) (σ : mt_St) (a1 : Int32) : Option (Int32 × mt_St) :=
  mt_ask (fX5_isWithin fu a1 (100 : Int32)) fun r1 =>
  if r1 = 0 then
    mt_call (fX5_finding fu σ (0 : Int32)) fun r6 s7 =>
    some (r6, s7)
  else
    mt_call (fX4_become fu σ 25 1) fun _ s3 =>
    mt_call (fX4_passYears fu s3 25 a1) fun _ s5 =>
    some ((s5 25 3), s5)
set_option maxHeartbeats 4000000 in
set_option maxRecDepth 20000 in
theorem vX5_gold {K : mt_C} {fu : Nat} {σ : mt_St} {a1 : Int32} {r : Int32} {σf : mt_St} (hQ : mt_R K (some .int) (some (.int r)) σf) : mt_V K cX5_gold RX5 2 6 σ 0 [(0, .ref (mt_adr (kG K) 0)), (1, .int a1)] [] (fX5_gold fu σ a1 = some (r, σf)) := by
  unfold fX5_gold
  refine mv_iload_n 1 dX5_gold_0 rfl rfl ?_
  refine mv_bipush (v := 100) dX5_gold_1 bp_100 ?_
  refine mv_cSri (As := [.int a1, .int (100 : Int32)]) (st := []) cal_X5_isWithin sta_X5_isWithin ml_X5_67 rfl (by decide) rfl (Nat.le_of_ble_eq_true rfl) dX5_gold_3 (fun r h => co_X5_isWithin h) (fun r1 => ?_)
  refine mv_if_ne 15 dX5_gold_6 (by decide) ?_ ?_
  · refine mv_aload_n 0 dX5_gold_15 rfl rfl ?_
    refine mg_X5_3 fl_X5_23 dX5_gold_16 ?_
    refine mv_aload_n 0 dX5_gold_19 rfl rfl ?_
    refine mg_X5_0 fl_X5_10 dX5_gold_20 ?_
    refine mv_cVwv (As := [.ref (mt_adr (kG K) 1)]) (st := []) cal_X4_become ins_X4_become ml_X5_168 rfl (by decide) rfl rfl (by decide) rfl (Nat.le_of_ble_eq_true rfl) dX5_gold_23 (fun r s h => co_X4_become rfl rfl h) (fun r2 s3 => ?_)
    refine mv_aload_n 0 dX5_gold_26 rfl rfl ?_
    refine mg_X5_3 fl_X5_23 dX5_gold_27 ?_
    refine mv_iload_n 1 dX5_gold_30 rfl rfl ?_
    refine mv_cVwv (As := [.int a1]) (st := []) cal_X4_passYears ins_X4_passYears ml_X5_129 rfl (by decide) rfl rfl (by decide) rfl (Nat.le_of_ble_eq_true rfl) dX5_gold_31 (fun r s h => co_X4_passYears rfl h) (fun r4 s5 => ?_)
    refine mv_aload_n 0 dX5_gold_34 rfl rfl ?_
    refine mg_X5_3 fl_X5_23 dX5_gold_35 ?_
    refine mg_X4_3 rfl fl_X5_137 dX5_gold_38 ?_
    exact mv_iret hQ dX5_gold_41
  · refine mv_aload_n 0 dX5_gold_9 rfl rfl ?_
    refine mv_iconst (v := 0) dX5_gold_10 ic_0 ?_
    refine mv_cVwi (As := [.int (0 : Int32)]) (st := []) cal_X5_finding ins_X5_finding ml_X5_71 rfl (by decide) rfl rfl (by decide) rfl (Nat.le_of_ble_eq_true rfl) dX5_gold_11 (fun r s h => co_X5_finding h) (fun r6 s7 => ?_)
    exact mv_iret hQ dX5_gold_14
theorem co_X5_gold {l : Launch} {G : mt_G} {fu : Nat} {σ : mt_St} {a1 : Int32} {r : Int32} {σf : mt_St}  (h : fX5_gold fu σ a1 = some (r, σf)) : mt_Con l G yX5_gold cX5_gold 2 (some .int) 6 [.ref (mt_adr G 0), .int a1] σ (some (.int r)) σf :=
  mt_con (by decide) (Nat.le_of_ble_eq_true rfl) (fun K hl hG hQ => by subst hl; subst hG; exact fun _ => vX5_gold  hQ h)
theorem dX5_breaks_0 : decode cX5_breaks 0 = .ok (.aload_n 0, 1) := by decide +kernel
theorem dX5_breaks_1 : decode cX5_breaks 1 = .ok (.iload_n 1, 1) := by decide +kernel
theorem dX5_breaks_2 : decode cX5_breaks 2 = .ok (.invokevirtual 98, 3) := by decide +kernel
theorem dX5_breaks_5 : decode cX5_breaks 5 = .ok (.ifCond .ne 9, 3) := by decide +kernel
theorem dX5_breaks_8 : decode cX5_breaks 8 = .ok (.aload_n 0, 1) := by decide +kernel
theorem dX5_breaks_9 : decode cX5_breaks 9 = .ok (.iconst 0, 1) := by decide +kernel
theorem dX5_breaks_10 : decode cX5_breaks 10 = .ok (.invokevirtual 71, 3) := by decide +kernel
theorem dX5_breaks_13 : decode cX5_breaks 13 = .ok (.ireturn, 1) := by decide +kernel
theorem dX5_breaks_14 : decode cX5_breaks 14 = .ok (.aload_n 0, 1) := by decide +kernel
theorem dX5_breaks_15 : decode cX5_breaks 15 = .ok (.sipush 200, 3) := by decide +kernel
theorem dX5_breaks_18 : decode cX5_breaks 18 = .ok (.invokevirtual 158, 3) := by decide +kernel
theorem dX5_breaks_21 : decode cX5_breaks 21 = .ok (.aload_n 0, 1) := by decide +kernel
theorem dX5_breaks_22 : decode cX5_breaks 22 = .ok (.iload_n 1, 1) := by decide +kernel
theorem dX5_breaks_23 : decode cX5_breaks 23 = .ok (.invokevirtual 161, 3) := by decide +kernel
theorem dX5_breaks_26 : decode cX5_breaks 26 = .ok (.aload_n 0, 1) := by decide +kernel
theorem dX5_breaks_27 : decode cX5_breaks 27 = .ok (.getfield 29, 3) := by decide +kernel
theorem dX5_breaks_30 : decode cX5_breaks 30 = .ok (.getfield 172, 3) := by decide +kernel
theorem dX5_breaks_33 : decode cX5_breaks 33 = .ok (.istore_n 2, 1) := by decide +kernel
theorem dX5_breaks_34 : decode cX5_breaks 34 = .ok (.iconst 1, 1) := by decide +kernel
theorem dX5_breaks_35 : decode cX5_breaks 35 = .ok (.istore_n 3, 1) := by decide +kernel
theorem dX5_breaks_36 : decode cX5_breaks 36 = .ok (.iload_n 3, 1) := by decide +kernel
theorem dX5_breaks_37 : decode cX5_breaks 37 = .ok (.sipush 200, 3) := by decide +kernel
theorem dX5_breaks_40 : decode cX5_breaks 40 = .ok (.if_icmp .gt 45, 3) := by decide +kernel
theorem dX5_breaks_43 : decode cX5_breaks 43 = .ok (.aload_n 0, 1) := by decide +kernel
theorem dX5_breaks_44 : decode cX5_breaks 44 = .ok (.getfield 29, 3) := by decide +kernel
theorem dX5_breaks_47 : decode cX5_breaks 47 = .ok (.aload_n 0, 1) := by decide +kernel
theorem dX5_breaks_48 : decode cX5_breaks 48 = .ok (.getfield 33, 3) := by decide +kernel
theorem dX5_breaks_51 : decode cX5_breaks 51 = .ok (.iload_n 3, 1) := by decide +kernel
theorem dX5_breaks_52 : decode cX5_breaks 52 = .ok (.iconst 1, 1) := by decide +kernel
theorem dX5_breaks_53 : decode cX5_breaks 53 = .ok (.isub, 1) := by decide +kernel
theorem dX5_breaks_54 : decode cX5_breaks 54 = .ok (.iaload, 1) := by decide +kernel
theorem dX5_breaks_55 : decode cX5_breaks 55 = .ok (.aload_n 0, 1) := by decide +kernel
theorem dX5_breaks_56 : decode cX5_breaks 56 = .ok (.getfield 10, 3) := by decide +kernel
theorem dX5_breaks_59 : decode cX5_breaks 59 = .ok (.getfield 78, 3) := by decide +kernel
theorem dX5_breaks_62 : decode cX5_breaks 62 = .ok (.invokevirtual 175, 3) := by decide +kernel
theorem dX5_breaks_65 : decode cX5_breaks 65 = .ok (.pop, 1) := by decide +kernel
theorem dX5_breaks_66 : decode cX5_breaks 66 = .ok (.aload_n 0, 1) := by decide +kernel
theorem dX5_breaks_67 : decode cX5_breaks 67 = .ok (.getfield 29, 3) := by decide +kernel
theorem dX5_breaks_70 : decode cX5_breaks 70 = .ok (.getfield 172, 3) := by decide +kernel
theorem dX5_breaks_73 : decode cX5_breaks 73 = .ok (.iload_n 2, 1) := by decide +kernel
theorem dX5_breaks_74 : decode cX5_breaks 74 = .ok (.if_icmp .le 5, 3) := by decide +kernel
theorem dX5_breaks_77 : decode cX5_breaks 77 = .ok (.iload_n 3, 1) := by decide +kernel
theorem dX5_breaks_78 : decode cX5_breaks 78 = .ok (.ireturn, 1) := by decide +kernel
theorem dX5_breaks_79 : decode cX5_breaks 79 = .ok (.iinc 3 1, 3) := by decide +kernel
theorem dX5_breaks_82 : decode cX5_breaks 82 = .ok (.goto (-46), 3) := by decide +kernel
theorem dX5_breaks_85 : decode cX5_breaks 85 = .ok (.aload_n 0, 1) := by decide +kernel
theorem dX5_breaks_86 : decode cX5_breaks 86 = .ok (.iconst 3, 1) := by decide +kernel
theorem dX5_breaks_87 : decode cX5_breaks 87 = .ok (.invokevirtual 71, 3) := by decide +kernel
theorem dX5_breaks_90 : decode cX5_breaks 90 = .ok (.ireturn, 1) := by decide +kernel
def bX5_breaks_36 (fu : Nat) : Nat → mt_St → Int32 → Int32 → Option (Int32 × mt_St)
  | 0, _, _, _ => none
  | n + 1, σ, x2, x3 =>
    if (200 : Int32) < x3 then
      mt_call (fX5_finding fu σ (3 : Int32)) fun r1 s2 =>
      some (r1, s2)
    else
      mt_chk (mt_in (x3 - (1 : Int32)) 200) <|
      mt_call (fX3_live fu σ 37 (σ 38 (Int32.toNatClampNeg (x3 - (1 : Int32)))) (σ 1 0)) fun r3 s4 =>
      if (s4 37 7) ≤ x2 then
        bX5_breaks_36 fu n s4 x2 (x3 + 1)
      else
        some (x3, s4)
set_option maxHeartbeats 4000000 in
set_option maxRecDepth 20000 in
theorem vX5_breaks_36 {K : mt_C} {fu : Nat} {r : Int32} {σf : mt_St} (hQ : mt_R K (some .int) (some (.int r)) σf) : ∀ (n : Nat) (σ : mt_St) (x2 : Int32) (x3 : Int32), mt_V K cX5_breaks RX5 4 4 σ 36 [(0, .ref (mt_adr (kG K) 0)), (2, .int x2), (3, .int x3)] [] (bX5_breaks_36 fu n σ x2 x3 = some (r, σf)) := by
  intro n
  induction n with
  | zero => intro σ x2 x3; intro hP; unfold bX5_breaks_36 at hP; cases hP
  | succ n ih =>
    intro σ x2 x3
    unfold bX5_breaks_36
    refine mv_iload_n 2 dX5_breaks_36 rfl rfl ?_
    refine mv_sipush (v := 200) dX5_breaks_37 sp_200 ?_
    refine mv_icmp_gt 85 dX5_breaks_40 (by decide) ?_ ?_
    · refine mv_aload_n 0 dX5_breaks_85 rfl rfl ?_
      refine mv_iconst (v := 3) dX5_breaks_86 ic_3 ?_
      refine mv_cVwi (As := [.int (3 : Int32)]) (st := []) cal_X5_finding ins_X5_finding ml_X5_71 rfl (by decide) rfl rfl (by decide) rfl (Nat.le_of_ble_eq_true rfl) dX5_breaks_87 (fun r s h => co_X5_finding h) (fun r1 s2 => ?_)
      exact mv_iret hQ dX5_breaks_90
    · refine mv_aload_n 0 dX5_breaks_43 rfl rfl ?_
      refine mg_X5_4 fl_X5_29 dX5_breaks_44 ?_
      refine mv_aload_n 0 dX5_breaks_47 rfl rfl ?_
      refine mg_X5_5 fl_X5_33 dX5_breaks_48 ?_
      refine mv_iload_n 2 dX5_breaks_51 rfl rfl ?_
      refine mv_iconst (v := 1) dX5_breaks_52 ic_1 ?_
      refine mv_isub dX5_breaks_53 ?_
      refine mv_iald 200 rfl rfl dX5_breaks_54 ?_
      refine mv_aload_n 0 dX5_breaks_55 rfl rfl ?_
      refine mg_X5_0 fl_X5_10 dX5_breaks_56 ?_
      refine mg_X4_0 rfl fl_X5_78 dX5_breaks_59 ?_
      refine mv_cVwi (As := [.int (σ 38 (Int32.toNatClampNeg (x3 - (1 : Int32)))), .int (σ 1 0)]) (st := []) cal_X3_live ins_X3_live ml_X5_175 rfl (by decide) rfl rfl (by decide) rfl (Nat.le_of_ble_eq_true rfl) dX5_breaks_62 (fun r s h => co_X3_live rfl h) (fun r3 s4 => ?_)
      refine mv_pop dX5_breaks_65 rfl ?_
      refine mv_aload_n 0 dX5_breaks_66 rfl rfl ?_
      refine mg_X5_4 fl_X5_29 dX5_breaks_67 ?_
      refine mg_X3_7 rfl fl_X5_172 dX5_breaks_70 ?_
      refine mv_iload_n 1 dX5_breaks_73 rfl rfl ?_
      refine mv_icmp_le 79 dX5_breaks_74 (by decide) ?_ ?_
      · refine mv_iinc (k0 := 2) (v := x3 + 1) (lv' := [(0, .ref (mt_adr (kG K) 0)), (2, .int x2), (3, .int (x3 + 1))]) [1, 2, 0] dX5_breaks_79 rfl (mt_inc ic_1) (by decide) rfl ?_
        refine mv_goto 36 dX5_breaks_82 (by decide) ?_
        exact ih s4 x2 (x3 + 1)
      · refine mv_iload_n 2 dX5_breaks_77 rfl rfl ?_
        exact mv_iret hQ dX5_breaks_78
def fX5_breaks (fu : Nat) (σ : mt_St) (a1 : Int32) : Option (Int32 × mt_St) :=
  mt_ask (fX5_isTreaty fu σ a1) fun r1 =>
  if r1 = 0 then
    mt_call (fX5_finding fu σ (0 : Int32)) fun r6 s7 =>
    some (r6, s7)
  else
    mt_call (fX5_foreseeUps fu σ (200 : Int32)) fun _ s3 =>
    mt_call (fX5_tryAlone fu s3 a1) fun _ s5 =>
    bX5_breaks_36 fu fu s5 (s5 37 7) (1 : Int32)
set_option maxHeartbeats 4000000 in
set_option maxRecDepth 20000 in
theorem vX5_breaks {K : mt_C} {fu : Nat} {σ : mt_St} {a1 : Int32} {r : Int32} {σf : mt_St} (hQ : mt_R K (some .int) (some (.int r)) σf) : mt_V K cX5_breaks RX5 4 4 σ 0 [(0, .ref (mt_adr (kG K) 0)), (1, .int a1)] [] (fX5_breaks fu σ a1 = some (r, σf)) := by
  unfold fX5_breaks
  refine mv_aload_n 0 dX5_breaks_0 rfl rfl ?_
  refine mv_iload_n 1 dX5_breaks_1 rfl rfl ?_
  refine mv_cVri (As := [.int a1]) (st := []) cal_X5_isTreaty ins_X5_isTreaty ml_X5_98 rfl (by decide) rfl rfl (by decide) rfl (Nat.le_of_ble_eq_true rfl) dX5_breaks_2 (fun r h => co_X5_isTreaty h) (fun r1 => ?_)
  refine mv_if_ne 14 dX5_breaks_5 (by decide) ?_ ?_
  · refine mv_aload_n 0 dX5_breaks_14 rfl rfl ?_
    refine mv_sipush (v := 200) dX5_breaks_15 sp_200 ?_
    refine mv_cVwv (As := [.int (200 : Int32)]) (st := []) cal_X5_foreseeUps ins_X5_foreseeUps ml_X5_158 rfl (by decide) rfl rfl (by decide) rfl (Nat.le_of_ble_eq_true rfl) dX5_breaks_18 (fun r s h => co_X5_foreseeUps h) (fun r2 s3 => ?_)
    refine mv_aload_n 0 dX5_breaks_21 rfl rfl ?_
    refine mv_iload_n 1 dX5_breaks_22 rfl rfl ?_
    refine mv_cVwv (As := [.int a1]) (st := []) cal_X5_tryAlone ins_X5_tryAlone ml_X5_161 rfl (by decide) rfl rfl (by decide) rfl (Nat.le_of_ble_eq_true rfl) dX5_breaks_23 (fun r s h => co_X5_tryAlone h) (fun r4 s5 => ?_)
    refine mv_aload_n 0 dX5_breaks_26 rfl rfl ?_
    refine mg_X5_4 fl_X5_29 dX5_breaks_27 ?_
    refine mg_X3_7 rfl fl_X5_172 dX5_breaks_30 ?_
    refine mv_istore_n (lv' := [(0, .ref (mt_adr (kG K) 0)), (2, .int (s5 37 7))]) [1, 0] dX5_breaks_33 rfl (by decide) rfl ?_
    refine mv_iconst (v := 1) dX5_breaks_34 ic_1 ?_
    refine mv_istore_n (lv' := [(0, .ref (mt_adr (kG K) 0)), (2, .int (s5 37 7)), (3, .int (1 : Int32))]) [1, 2, 0] dX5_breaks_35 rfl (by decide) rfl ?_
    exact vX5_breaks_36 hQ fu s5 (s5 37 7) (1 : Int32)
  · refine mv_aload_n 0 dX5_breaks_8 rfl rfl ?_
    refine mv_iconst (v := 0) dX5_breaks_9 ic_0 ?_
    refine mv_cVwi (As := [.int (0 : Int32)]) (st := []) cal_X5_finding ins_X5_finding ml_X5_71 rfl (by decide) rfl rfl (by decide) rfl (Nat.le_of_ble_eq_true rfl) dX5_breaks_10 (fun r s h => co_X5_finding h) (fun r6 s7 => ?_)
    exact mv_iret hQ dX5_breaks_13
theorem co_X5_breaks {l : Launch} {G : mt_G} {fu : Nat} {σ : mt_St} {a1 : Int32} {r : Int32} {σf : mt_St}  (h : fX5_breaks fu σ a1 = some (r, σf)) : mt_Con l G yX5_breaks cX5_breaks 4 (some .int) 4 [.ref (mt_adr G 0), .int a1] σ (some (.int r)) σf :=
  mt_con (by decide) (Nat.le_of_ble_eq_true rfl) (fun K hl hG hQ => by subst hl; subst hG; exact fun _ => vX5_breaks  hQ h)
theorem dX5_war_0 : decode cX5_war 0 = .ok (.iload_n 1, 1) := by decide +kernel
theorem dX5_war_1 : decode cX5_war 1 = .ok (.iload_n 2, 1) := by decide +kernel
theorem dX5_war_2 : decode cX5_war 2 = .ok (.invokestatic 88, 3) := by decide +kernel
theorem dX5_war_5 : decode cX5_war 5 = .ok (.ifCond .ne 9, 3) := by decide +kernel
theorem dX5_war_8 : decode cX5_war 8 = .ok (.aload_n 0, 1) := by decide +kernel
theorem dX5_war_9 : decode cX5_war 9 = .ok (.iconst 0, 1) := by decide +kernel
theorem dX5_war_10 : decode cX5_war 10 = .ok (.invokevirtual 71, 3) := by decide +kernel
theorem dX5_war_13 : decode cX5_war 13 = .ok (.ireturn, 1) := by decide +kernel
theorem dX5_war_14 : decode cX5_war 14 = .ok (.iload_n 1, 1) := by decide +kernel
theorem dX5_war_15 : decode cX5_war 15 = .ok (.iload_n 2, 1) := by decide +kernel
theorem dX5_war_16 : decode cX5_war 16 = .ok (.invokestatic 121, 3) := by decide +kernel
theorem dX5_war_19 : decode cX5_war 19 = .ok (.lstore_n 3, 1) := by decide +kernel
theorem dX5_war_20 : decode cX5_war 20 = .ok (.aload_n 0, 1) := by decide +kernel
theorem dX5_war_21 : decode cX5_war 21 = .ok (.getfield 23, 3) := by decide +kernel
theorem dX5_war_24 : decode cX5_war 24 = .ok (.aload_n 0, 1) := by decide +kernel
theorem dX5_war_25 : decode cX5_war 25 = .ok (.getfield 10, 3) := by decide +kernel
theorem dX5_war_28 : decode cX5_war 28 = .ok (.invokevirtual 168, 3) := by decide +kernel
theorem dX5_war_31 : decode cX5_war 31 = .ok (.iconst 0, 1) := by decide +kernel
theorem dX5_war_32 : decode cX5_war 32 = .ok (.istore 5, 2) := by decide +kernel
theorem dX5_war_34 : decode cX5_war 34 = .ok (.iload 5, 2) := by decide +kernel
theorem dX5_war_36 : decode cX5_war 36 = .ok (.sipush 200, 3) := by decide +kernel
theorem dX5_war_39 : decode cX5_war 39 = .ok (.if_icmp .gt 33, 3) := by decide +kernel
theorem dX5_war_42 : decode cX5_war 42 = .ok (.aload_n 0, 1) := by decide +kernel
theorem dX5_war_43 : decode cX5_war 43 = .ok (.getfield 23, 3) := by decide +kernel
theorem dX5_war_46 : decode cX5_war 46 = .ok (.invokevirtual 117, 3) := by decide +kernel
theorem dX5_war_49 : decode cX5_war 49 = .ok (.lload_n 3, 1) := by decide +kernel
theorem dX5_war_50 : decode cX5_war 50 = .ok (.land, 1) := by decide +kernel
theorem dX5_war_51 : decode cX5_war 51 = .ok (.lconst 0, 1) := by decide +kernel
theorem dX5_war_52 : decode cX5_war 52 = .ok (.lcmp, 1) := by decide +kernel
theorem dX5_war_53 : decode cX5_war 53 = .ok (.ifCond .eq 6, 3) := by decide +kernel
theorem dX5_war_56 : decode cX5_war 56 = .ok (.iload 5, 2) := by decide +kernel
theorem dX5_war_58 : decode cX5_war 58 = .ok (.ireturn, 1) := by decide +kernel
theorem dX5_war_59 : decode cX5_war 59 = .ok (.aload_n 0, 1) := by decide +kernel
theorem dX5_war_60 : decode cX5_war 60 = .ok (.getfield 23, 3) := by decide +kernel
theorem dX5_war_63 : decode cX5_war 63 = .ok (.invokevirtual 178, 3) := by decide +kernel
theorem dX5_war_66 : decode cX5_war 66 = .ok (.iinc 5 1, 3) := by decide +kernel
theorem dX5_war_69 : decode cX5_war 69 = .ok (.goto (-35), 3) := by decide +kernel
theorem dX5_war_72 : decode cX5_war 72 = .ok (.aload_n 0, 1) := by decide +kernel
theorem dX5_war_73 : decode cX5_war 73 = .ok (.iconst 3, 1) := by decide +kernel
theorem dX5_war_74 : decode cX5_war 74 = .ok (.invokevirtual 71, 3) := by decide +kernel
theorem dX5_war_77 : decode cX5_war 77 = .ok (.ireturn, 1) := by decide +kernel
def bX5_war_34 (fu : Nat) : Nat → mt_St → Int64 → Int32 → Option (Int32 × mt_St)
  | 0, _, _, _ => none
  | n + 1, σ, x3, x5 =>
    if (200 : Int32) < x5 then
      mt_call (fX5_finding fu σ (3 : Int32)) fun r1 s2 =>
      some (r1, s2)
    else
      mt_ask (fX4_pairsAtWar fu σ 25) fun r3 =>
      if (lg_cmp (r3 &&& x3) (0 : Int64)) = 0 then
        mt_call (fX4_pass fu σ 25) fun _ s5 =>
        bX5_war_34 fu n s5 x3 (x5 + 1)
      else
        some (x5, σ)
set_option maxHeartbeats 4000000 in
set_option maxRecDepth 20000 in
theorem vX5_war_34 {K : mt_C} {fu : Nat} {r : Int32} {σf : mt_St} (hQ : mt_R K (some .int) (some (.int r)) σf) : ∀ (n : Nat) (σ : mt_St) (x3 : Int64) (x5 : Int32), mt_V K cX5_war RX5 6 5 σ 34 [(0, .ref (mt_adr (kG K) 0)), (3, .long x3), (5, .int x5)] [] (bX5_war_34 fu n σ x3 x5 = some (r, σf)) := by
  intro n
  induction n with
  | zero => intro σ x3 x5; intro hP; unfold bX5_war_34 at hP; cases hP
  | succ n ih =>
    intro σ x3 x5
    unfold bX5_war_34
    refine mv_iload 2 dX5_war_34 rfl ?_
    refine mv_sipush (v := 200) dX5_war_36 sp_200 ?_
    refine mv_icmp_gt 72 dX5_war_39 (by decide) ?_ ?_
    · refine mv_aload_n 0 dX5_war_72 rfl rfl ?_
      refine mv_iconst (v := 3) dX5_war_73 ic_3 ?_
      refine mv_cVwi (As := [.int (3 : Int32)]) (st := []) cal_X5_finding ins_X5_finding ml_X5_71 rfl (by decide) rfl rfl (by decide) rfl (Nat.le_of_ble_eq_true rfl) dX5_war_74 (fun r s h => co_X5_finding h) (fun r1 s2 => ?_)
      exact mv_iret hQ dX5_war_77
    · refine mv_aload_n 0 dX5_war_42 rfl rfl ?_
      refine mg_X5_3 fl_X5_23 dX5_war_43 ?_
      refine mv_cVrl (As := []) (st := []) cal_X4_pairsAtWar ins_X4_pairsAtWar ml_X5_117 rfl (by decide) rfl rfl (by decide) rfl (Nat.le_of_ble_eq_true rfl) dX5_war_46 (fun r h => co_X4_pairsAtWar rfl h) (fun r3 => ?_)
      refine mv_lload_n 1 dX5_war_49 rfl rfl ?_
      refine mv_land dX5_war_50 ?_
      refine mv_lconst (v := 0) dX5_war_51 (by decide) ?_
      refine mv_lcmp dX5_war_52 ?_
      refine mv_if_eq 59 dX5_war_53 (by decide) ?_ ?_
      · refine mv_aload_n 0 dX5_war_59 rfl rfl ?_
        refine mg_X5_3 fl_X5_23 dX5_war_60 ?_
        refine mv_cVwv (As := []) (st := []) cal_X4_pass ins_X4_pass ml_X5_178 rfl (by decide) rfl rfl (by decide) rfl (Nat.le_of_ble_eq_true rfl) dX5_war_63 (fun r s h => co_X4_pass rfl h) (fun r4 s5 => ?_)
        refine mv_iinc (k0 := 2) (v := x5 + 1) (lv' := [(0, .ref (mt_adr (kG K) 0)), (3, .long x3), (5, .int (x5 + 1))]) [1, 2, 0] dX5_war_66 rfl (mt_inc ic_1) (by decide) rfl ?_
        refine mv_goto 34 dX5_war_69 (by decide) ?_
        exact ih s5 x3 (x5 + 1)
      · refine mv_iload 2 dX5_war_56 rfl ?_
        exact mv_iret hQ dX5_war_58
def fX5_war (fu : Nat) (σ : mt_St) (a1 : Int32) (a2 : Int32) : Option (Int32 × mt_St) :=
  mt_ask (fX5_isPair fu a1 a2) fun r1 =>
  if r1 = 0 then
    mt_call (fX5_finding fu σ (0 : Int32)) fun r5 s6 =>
    some (r5, s6)
  else
    mt_ask (fX5_pair fu a1 a2) fun r2 =>
    mt_call (fX4_become fu σ 25 1) fun _ s4 =>
    bX5_war_34 fu fu s4 r2 (0 : Int32)
set_option maxHeartbeats 4000000 in
set_option maxRecDepth 20000 in
theorem vX5_war {K : mt_C} {fu : Nat} {σ : mt_St} {a1 : Int32} {a2 : Int32} {r : Int32} {σf : mt_St} (hQ : mt_R K (some .int) (some (.int r)) σf) : mt_V K cX5_war RX5 6 5 σ 0 [(0, .ref (mt_adr (kG K) 0)), (1, .int a1), (2, .int a2)] [] (fX5_war fu σ a1 a2 = some (r, σf)) := by
  unfold fX5_war
  refine mv_iload_n 1 dX5_war_0 rfl rfl ?_
  refine mv_iload_n 2 dX5_war_1 rfl rfl ?_
  refine mv_cSri (As := [.int a1, .int a2]) (st := []) cal_X5_isPair sta_X5_isPair ml_X5_88 rfl (by decide) rfl (Nat.le_of_ble_eq_true rfl) dX5_war_2 (fun r h => co_X5_isPair h) (fun r1 => ?_)
  refine mv_if_ne 14 dX5_war_5 (by decide) ?_ ?_
  · refine mv_iload_n 1 dX5_war_14 rfl rfl ?_
    refine mv_iload_n 2 dX5_war_15 rfl rfl ?_
    refine mv_cSrl (As := [.int a1, .int a2]) (st := []) cal_X5_pair sta_X5_pair ml_X5_121 rfl (by decide) rfl (Nat.le_of_ble_eq_true rfl) dX5_war_16 (fun r h => co_X5_pair h) (fun r2 => ?_)
    refine mv_lstore_n (lv' := [(0, .ref (mt_adr (kG K) 0)), (3, .long r2)]) [1, 0] dX5_war_19 rfl (by decide) rfl ?_
    refine mv_aload_n 0 dX5_war_20 rfl rfl ?_
    refine mg_X5_3 fl_X5_23 dX5_war_21 ?_
    refine mv_aload_n 0 dX5_war_24 rfl rfl ?_
    refine mg_X5_0 fl_X5_10 dX5_war_25 ?_
    refine mv_cVwv (As := [.ref (mt_adr (kG K) 1)]) (st := []) cal_X4_become ins_X4_become ml_X5_168 rfl (by decide) rfl rfl (by decide) rfl (Nat.le_of_ble_eq_true rfl) dX5_war_28 (fun r s h => co_X4_become rfl rfl h) (fun r3 s4 => ?_)
    refine mv_iconst (v := 0) dX5_war_31 ic_0 ?_
    refine mv_istore (lv' := [(0, .ref (mt_adr (kG K) 0)), (3, .long r2), (5, .int (0 : Int32))]) [1, 2, 0] dX5_war_32 (by decide) rfl ?_
    exact vX5_war_34 hQ fu s4 r2 (0 : Int32)
  · refine mv_aload_n 0 dX5_war_8 rfl rfl ?_
    refine mv_iconst (v := 0) dX5_war_9 ic_0 ?_
    refine mv_cVwi (As := [.int (0 : Int32)]) (st := []) cal_X5_finding ins_X5_finding ml_X5_71 rfl (by decide) rfl rfl (by decide) rfl (Nat.le_of_ble_eq_true rfl) dX5_war_10 (fun r s h => co_X5_finding h) (fun r5 s6 => ?_)
    exact mv_iret hQ dX5_war_13
theorem co_X5_war {l : Launch} {G : mt_G} {fu : Nat} {σ : mt_St} {a1 : Int32} {a2 : Int32} {r : Int32} {σf : mt_St}  (h : fX5_war fu σ a1 a2 = some (r, σf)) : mt_Con l G yX5_war cX5_war 6 (some .int) 5 [.ref (mt_adr G 0), .int a1, .int a2] σ (some (.int r)) σf :=
  mt_con (by decide) (Nat.le_of_ble_eq_true rfl) (fun K hl hG hQ => by subst hl; subst hG; exact fun _ => vX5_war  hQ h)
theorem dX5_peace_0 : decode cX5_peace 0 = .ok (.aload_n 0, 1) := by decide +kernel
theorem dX5_peace_1 : decode cX5_peace 1 = .ok (.getfield 23, 3) := by decide +kernel
theorem dX5_peace_4 : decode cX5_peace 4 = .ok (.aload_n 0, 1) := by decide +kernel
theorem dX5_peace_5 : decode cX5_peace 5 = .ok (.getfield 10, 3) := by decide +kernel
theorem dX5_peace_8 : decode cX5_peace 8 = .ok (.invokevirtual 168, 3) := by decide +kernel
theorem dX5_peace_11 : decode cX5_peace 11 = .ok (.iconst 0, 1) := by decide +kernel
theorem dX5_peace_12 : decode cX5_peace 12 = .ok (.istore_n 1, 1) := by decide +kernel
theorem dX5_peace_13 : decode cX5_peace 13 = .ok (.iload_n 1, 1) := by decide +kernel
theorem dX5_peace_14 : decode cX5_peace 14 = .ok (.sipush 200, 3) := by decide +kernel
theorem dX5_peace_17 : decode cX5_peace 17 = .ok (.if_icmp .gt 30, 3) := by decide +kernel
theorem dX5_peace_20 : decode cX5_peace 20 = .ok (.aload_n 0, 1) := by decide +kernel
theorem dX5_peace_21 : decode cX5_peace 21 = .ok (.getfield 23, 3) := by decide +kernel
theorem dX5_peace_24 : decode cX5_peace 24 = .ok (.invokevirtual 117, 3) := by decide +kernel
theorem dX5_peace_27 : decode cX5_peace 27 = .ok (.lconst 0, 1) := by decide +kernel
theorem dX5_peace_28 : decode cX5_peace 28 = .ok (.lcmp, 1) := by decide +kernel
theorem dX5_peace_29 : decode cX5_peace 29 = .ok (.ifCond .ne 5, 3) := by decide +kernel
theorem dX5_peace_32 : decode cX5_peace 32 = .ok (.iload_n 1, 1) := by decide +kernel
theorem dX5_peace_33 : decode cX5_peace 33 = .ok (.ireturn, 1) := by decide +kernel
theorem dX5_peace_34 : decode cX5_peace 34 = .ok (.aload_n 0, 1) := by decide +kernel
theorem dX5_peace_35 : decode cX5_peace 35 = .ok (.getfield 23, 3) := by decide +kernel
theorem dX5_peace_38 : decode cX5_peace 38 = .ok (.invokevirtual 178, 3) := by decide +kernel
theorem dX5_peace_41 : decode cX5_peace 41 = .ok (.iinc 1 1, 3) := by decide +kernel
theorem dX5_peace_44 : decode cX5_peace 44 = .ok (.goto (-31), 3) := by decide +kernel
theorem dX5_peace_47 : decode cX5_peace 47 = .ok (.aload_n 0, 1) := by decide +kernel
theorem dX5_peace_48 : decode cX5_peace 48 = .ok (.iconst 3, 1) := by decide +kernel
theorem dX5_peace_49 : decode cX5_peace 49 = .ok (.invokevirtual 71, 3) := by decide +kernel
theorem dX5_peace_52 : decode cX5_peace 52 = .ok (.ireturn, 1) := by decide +kernel
def bX5_peace_13 (fu : Nat) : Nat → mt_St → Int32 → Option (Int32 × mt_St)
  | 0, _, _ => none
  | n + 1, σ, x1 =>
    if (200 : Int32) < x1 then
      mt_call (fX5_finding fu σ (3 : Int32)) fun r1 s2 =>
      some (r1, s2)
    else
      mt_ask (fX4_pairsAtWar fu σ 25) fun r3 =>
      if (lg_cmp r3 (0 : Int64)) = 0 then
        some (x1, σ)
      else
        mt_call (fX4_pass fu σ 25) fun _ s5 =>
        bX5_peace_13 fu n s5 (x1 + 1)
set_option maxHeartbeats 4000000 in
set_option maxRecDepth 20000 in
theorem vX5_peace_13 {K : mt_C} {fu : Nat} {r : Int32} {σf : mt_St} (hQ : mt_R K (some .int) (some (.int r)) σf) : ∀ (n : Nat) (σ : mt_St) (x1 : Int32), mt_V K cX5_peace RX5 2 5 σ 13 [(0, .ref (mt_adr (kG K) 0)), (1, .int x1)] [] (bX5_peace_13 fu n σ x1 = some (r, σf)) := by
  intro n
  induction n with
  | zero => intro σ x1; intro hP; unfold bX5_peace_13 at hP; cases hP
  | succ n ih =>
    intro σ x1
    unfold bX5_peace_13
    refine mv_iload_n 1 dX5_peace_13 rfl rfl ?_
    refine mv_sipush (v := 200) dX5_peace_14 sp_200 ?_
    refine mv_icmp_gt 47 dX5_peace_17 (by decide) ?_ ?_
    · refine mv_aload_n 0 dX5_peace_47 rfl rfl ?_
      refine mv_iconst (v := 3) dX5_peace_48 ic_3 ?_
      refine mv_cVwi (As := [.int (3 : Int32)]) (st := []) cal_X5_finding ins_X5_finding ml_X5_71 rfl (by decide) rfl rfl (by decide) rfl (Nat.le_of_ble_eq_true rfl) dX5_peace_49 (fun r s h => co_X5_finding h) (fun r1 s2 => ?_)
      exact mv_iret hQ dX5_peace_52
    · refine mv_aload_n 0 dX5_peace_20 rfl rfl ?_
      refine mg_X5_3 fl_X5_23 dX5_peace_21 ?_
      refine mv_cVrl (As := []) (st := []) cal_X4_pairsAtWar ins_X4_pairsAtWar ml_X5_117 rfl (by decide) rfl rfl (by decide) rfl (Nat.le_of_ble_eq_true rfl) dX5_peace_24 (fun r h => co_X4_pairsAtWar rfl h) (fun r3 => ?_)
      refine mv_lconst (v := 0) dX5_peace_27 (by decide) ?_
      refine mv_lcmp dX5_peace_28 ?_
      refine mv_if_ne 34 dX5_peace_29 (by decide) ?_ ?_
      · refine mv_aload_n 0 dX5_peace_34 rfl rfl ?_
        refine mg_X5_3 fl_X5_23 dX5_peace_35 ?_
        refine mv_cVwv (As := []) (st := []) cal_X4_pass ins_X4_pass ml_X5_178 rfl (by decide) rfl rfl (by decide) rfl (Nat.le_of_ble_eq_true rfl) dX5_peace_38 (fun r s h => co_X4_pass rfl h) (fun r4 s5 => ?_)
        refine mv_iinc (k0 := 1) (v := x1 + 1) (lv' := [(0, .ref (mt_adr (kG K) 0)), (1, .int (x1 + 1))]) [1, 0] dX5_peace_41 rfl (mt_inc ic_1) (by decide) rfl ?_
        refine mv_goto 13 dX5_peace_44 (by decide) ?_
        exact ih s5 (x1 + 1)
      · refine mv_iload_n 1 dX5_peace_32 rfl rfl ?_
        exact mv_iret hQ dX5_peace_33
def fX5_peace (fu : Nat) (σ : mt_St) : Option (Int32 × mt_St) :=
  mt_call (fX4_become fu σ 25 1) fun _ s2 =>
  bX5_peace_13 fu fu s2 (0 : Int32)
set_option maxHeartbeats 4000000 in
set_option maxRecDepth 20000 in
theorem vX5_peace {K : mt_C} {fu : Nat} {σ : mt_St} {r : Int32} {σf : mt_St} (hQ : mt_R K (some .int) (some (.int r)) σf) : mt_V K cX5_peace RX5 2 5 σ 0 [(0, .ref (mt_adr (kG K) 0))] [] (fX5_peace fu σ = some (r, σf)) := by
  unfold fX5_peace
  refine mv_aload_n 0 dX5_peace_0 rfl rfl ?_
  refine mg_X5_3 fl_X5_23 dX5_peace_1 ?_
  refine mv_aload_n 0 dX5_peace_4 rfl rfl ?_
  refine mg_X5_0 fl_X5_10 dX5_peace_5 ?_
  refine mv_cVwv (As := [.ref (mt_adr (kG K) 1)]) (st := []) cal_X4_become ins_X4_become ml_X5_168 rfl (by decide) rfl rfl (by decide) rfl (Nat.le_of_ble_eq_true rfl) dX5_peace_8 (fun r s h => co_X4_become rfl rfl h) (fun r1 s2 => ?_)
  refine mv_iconst (v := 0) dX5_peace_11 ic_0 ?_
  refine mv_istore_n (lv' := [(0, .ref (mt_adr (kG K) 0)), (1, .int (0 : Int32))]) [1, 0] dX5_peace_12 rfl (by decide) rfl ?_
  exact vX5_peace_13 hQ fu s2 (0 : Int32)
theorem co_X5_peace {l : Launch} {G : mt_G} {fu : Nat} {σ : mt_St} {r : Int32} {σf : mt_St}  (h : fX5_peace fu σ = some (r, σf)) : mt_Con l G yX5_peace cX5_peace 2 (some .int) 5 [.ref (mt_adr G 0)] σ (some (.int r)) σf :=
  mt_con (by decide) (Nat.le_of_ble_eq_true rfl) (fun K hl hG hQ => by subst hl; subst hG; exact fun _ => vX5_peace  hQ h)
theorem dX5_when_0 : decode cX5_when 0 = .ok (.aload_n 0, 1) := by decide +kernel
theorem dX5_when_1 : decode cX5_when 1 = .ok (.iload_n 1, 1) := by decide +kernel
theorem dX5_when_2 : decode cX5_when 2 = .ok (.invokevirtual 98, 3) := by decide +kernel
theorem dX5_when_5 : decode cX5_when 5 = .ok (.ifCond .eq 13, 3) := by decide +kernel
theorem dX5_when_8 : decode cX5_when 8 = .ok (.iload_n 2, 1) := by decide +kernel
theorem dX5_when_9 : decode cX5_when 9 = .ok (.sipush 9999, 3) := by decide +kernel
theorem dX5_when_12 : decode cX5_when 12 = .ok (.invokestatic 67, 3) := by decide +kernel
theorem dX5_when_15 : decode cX5_when 15 = .ok (.ifCond .ne 9, 3) := by decide +kernel
theorem dX5_when_18 : decode cX5_when 18 = .ok (.aload_n 0, 1) := by decide +kernel
theorem dX5_when_19 : decode cX5_when 19 = .ok (.iconst 0, 1) := by decide +kernel
theorem dX5_when_20 : decode cX5_when 20 = .ok (.invokevirtual 71, 3) := by decide +kernel
theorem dX5_when_23 : decode cX5_when 23 = .ok (.ireturn, 1) := by decide +kernel
theorem dX5_when_24 : decode cX5_when 24 = .ok (.aload_n 0, 1) := by decide +kernel
theorem dX5_when_25 : decode cX5_when 25 = .ok (.sipush 200, 3) := by decide +kernel
theorem dX5_when_28 : decode cX5_when 28 = .ok (.invokevirtual 158, 3) := by decide +kernel
theorem dX5_when_31 : decode cX5_when 31 = .ok (.aload_n 0, 1) := by decide +kernel
theorem dX5_when_32 : decode cX5_when 32 = .ok (.iload_n 1, 1) := by decide +kernel
theorem dX5_when_33 : decode cX5_when 33 = .ok (.invokevirtual 161, 3) := by decide +kernel
theorem dX5_when_36 : decode cX5_when 36 = .ok (.iconst 0, 1) := by decide +kernel
theorem dX5_when_37 : decode cX5_when 37 = .ok (.istore_n 3, 1) := by decide +kernel
theorem dX5_when_38 : decode cX5_when 38 = .ok (.iload_n 3, 1) := by decide +kernel
theorem dX5_when_39 : decode cX5_when 39 = .ok (.sipush 200, 3) := by decide +kernel
theorem dX5_when_42 : decode cX5_when 42 = .ok (.if_icmp .gt 50, 3) := by decide +kernel
theorem dX5_when_45 : decode cX5_when 45 = .ok (.aload_n 0, 1) := by decide +kernel
theorem dX5_when_46 : decode cX5_when 46 = .ok (.getfield 29, 3) := by decide +kernel
theorem dX5_when_49 : decode cX5_when 49 = .ok (.getfield 181, 3) := by decide +kernel
theorem dX5_when_52 : decode cX5_when 52 = .ok (.iload_n 2, 1) := by decide +kernel
theorem dX5_when_53 : decode cX5_when 53 = .ok (.if_icmp .lt 5, 3) := by decide +kernel
theorem dX5_when_56 : decode cX5_when 56 = .ok (.iload_n 3, 1) := by decide +kernel
theorem dX5_when_57 : decode cX5_when 57 = .ok (.ireturn, 1) := by decide +kernel
theorem dX5_when_58 : decode cX5_when 58 = .ok (.iload_n 3, 1) := by decide +kernel
theorem dX5_when_59 : decode cX5_when 59 = .ok (.sipush 200, 3) := by decide +kernel
theorem dX5_when_62 : decode cX5_when 62 = .ok (.if_icmp .ge 24, 3) := by decide +kernel
theorem dX5_when_65 : decode cX5_when 65 = .ok (.aload_n 0, 1) := by decide +kernel
theorem dX5_when_66 : decode cX5_when 66 = .ok (.getfield 29, 3) := by decide +kernel
theorem dX5_when_69 : decode cX5_when 69 = .ok (.aload_n 0, 1) := by decide +kernel
theorem dX5_when_70 : decode cX5_when 70 = .ok (.getfield 33, 3) := by decide +kernel
theorem dX5_when_73 : decode cX5_when 73 = .ok (.iload_n 3, 1) := by decide +kernel
theorem dX5_when_74 : decode cX5_when 74 = .ok (.iaload, 1) := by decide +kernel
theorem dX5_when_75 : decode cX5_when 75 = .ok (.aload_n 0, 1) := by decide +kernel
theorem dX5_when_76 : decode cX5_when 76 = .ok (.getfield 10, 3) := by decide +kernel
theorem dX5_when_79 : decode cX5_when 79 = .ok (.getfield 78, 3) := by decide +kernel
theorem dX5_when_82 : decode cX5_when 82 = .ok (.invokevirtual 175, 3) := by decide +kernel
theorem dX5_when_85 : decode cX5_when 85 = .ok (.pop, 1) := by decide +kernel
theorem dX5_when_86 : decode cX5_when 86 = .ok (.iinc 3 1, 3) := by decide +kernel
theorem dX5_when_89 : decode cX5_when 89 = .ok (.goto (-51), 3) := by decide +kernel
theorem dX5_when_92 : decode cX5_when 92 = .ok (.aload_n 0, 1) := by decide +kernel
theorem dX5_when_93 : decode cX5_when 93 = .ok (.iconst 3, 1) := by decide +kernel
theorem dX5_when_94 : decode cX5_when 94 = .ok (.invokevirtual 71, 3) := by decide +kernel
theorem dX5_when_97 : decode cX5_when 97 = .ok (.ireturn, 1) := by decide +kernel
def bX5_when_86 (fu : Nat) (k38 : mt_St → Int32 → Int32 → Option (Int32 × mt_St)) (σ : mt_St) (x2 : Int32) (x3 : Int32) : Option (Int32 × mt_St) :=
  k38 σ x2 (x3 + 1)
set_option maxHeartbeats 4000000 in
set_option maxRecDepth 20000 in
theorem vX5_when_86 {K : mt_C} {fu : Nat} {r : Int32} {σf : mt_St} (hQ : mt_R K (some .int) (some (.int r)) σf) {k38 : mt_St → Int32 → Int32 → Option (Int32 × mt_St)} (hk38 : ∀ (s0 : mt_St) (x2 : Int32) (x3 : Int32), mt_V K cX5_when RX5 4 4 s0 38 [(0, .ref (mt_adr (kG K) 0)), (2, .int x2), (3, .int x3)] [] (k38 s0 x2 x3 = some (r, σf))) : ∀ (σ : mt_St) (x2 : Int32) (x3 : Int32), mt_V K cX5_when RX5 4 4 σ 86 [(0, .ref (mt_adr (kG K) 0)), (2, .int x2), (3, .int x3)] [] (bX5_when_86 fu k38 σ x2 x3 = some (r, σf)) := by
  intro σ x2 x3
  unfold bX5_when_86
  refine mv_iinc (k0 := 2) (v := x3 + 1) (lv' := [(0, .ref (mt_adr (kG K) 0)), (2, .int x2), (3, .int (x3 + 1))]) [1, 2, 0] dX5_when_86 rfl (mt_inc ic_1) (by decide) rfl ?_
  refine mv_goto 38 dX5_when_89 (by decide) ?_
  exact hk38 σ x2 (x3 + 1)
def bX5_when_38 (fu : Nat) : Nat → mt_St → Int32 → Int32 → Option (Int32 × mt_St)
  | 0, _, _, _ => none
  | n + 1, σ, x2, x3 =>
    if (200 : Int32) < x3 then
      mt_call (fX5_finding fu σ (3 : Int32)) fun r1 s2 =>
      some (r1, s2)
    else
      if (σ 37 5) < x2 then
        if (200 : Int32) ≤ x3 then
          bX5_when_86 fu (fun s0 x2 x3 => bX5_when_38 fu n s0 x2 x3) σ x2 x3
        else
          mt_chk (mt_in x3 200) <|
          mt_call (fX3_live fu σ 37 (σ 38 (Int32.toNatClampNeg x3)) (σ 1 0)) fun r3 s4 =>
          bX5_when_86 fu (fun s0 x2 x3 => bX5_when_38 fu n s0 x2 x3) s4 x2 x3
      else
        some (x3, σ)
set_option maxHeartbeats 4000000 in
set_option maxRecDepth 20000 in
theorem vX5_when_38 {K : mt_C} {fu : Nat} {r : Int32} {σf : mt_St} (hQ : mt_R K (some .int) (some (.int r)) σf) : ∀ (n : Nat) (σ : mt_St) (x2 : Int32) (x3 : Int32), mt_V K cX5_when RX5 4 4 σ 38 [(0, .ref (mt_adr (kG K) 0)), (2, .int x2), (3, .int x3)] [] (bX5_when_38 fu n σ x2 x3 = some (r, σf)) := by
  intro n
  induction n with
  | zero => intro σ x2 x3; intro hP; unfold bX5_when_38 at hP; cases hP
  | succ n ih =>
    intro σ x2 x3
    unfold bX5_when_38
    refine mv_iload_n 2 dX5_when_38 rfl rfl ?_
    refine mv_sipush (v := 200) dX5_when_39 sp_200 ?_
    refine mv_icmp_gt 92 dX5_when_42 (by decide) ?_ ?_
    · refine mv_aload_n 0 dX5_when_92 rfl rfl ?_
      refine mv_iconst (v := 3) dX5_when_93 ic_3 ?_
      refine mv_cVwi (As := [.int (3 : Int32)]) (st := []) cal_X5_finding ins_X5_finding ml_X5_71 rfl (by decide) rfl rfl (by decide) rfl (Nat.le_of_ble_eq_true rfl) dX5_when_94 (fun r s h => co_X5_finding h) (fun r1 s2 => ?_)
      exact mv_iret hQ dX5_when_97
    · refine mv_aload_n 0 dX5_when_45 rfl rfl ?_
      refine mg_X5_4 fl_X5_29 dX5_when_46 ?_
      refine mg_X3_5 rfl fl_X5_181 dX5_when_49 ?_
      refine mv_iload_n 1 dX5_when_52 rfl rfl ?_
      refine mv_icmp_lt 58 dX5_when_53 (by decide) ?_ ?_
      · refine mv_iload_n 2 dX5_when_58 rfl rfl ?_
        refine mv_sipush (v := 200) dX5_when_59 sp_200 ?_
        refine mv_icmp_ge 86 dX5_when_62 (by decide) ?_ ?_
        · exact vX5_when_86 hQ (fun s0 x2 x3 => ih s0 x2 x3) σ x2 x3
        · refine mv_aload_n 0 dX5_when_65 rfl rfl ?_
          refine mg_X5_4 fl_X5_29 dX5_when_66 ?_
          refine mv_aload_n 0 dX5_when_69 rfl rfl ?_
          refine mg_X5_5 fl_X5_33 dX5_when_70 ?_
          refine mv_iload_n 2 dX5_when_73 rfl rfl ?_
          refine mv_iald 200 rfl rfl dX5_when_74 ?_
          refine mv_aload_n 0 dX5_when_75 rfl rfl ?_
          refine mg_X5_0 fl_X5_10 dX5_when_76 ?_
          refine mg_X4_0 rfl fl_X5_78 dX5_when_79 ?_
          refine mv_cVwi (As := [.int (σ 38 (Int32.toNatClampNeg x3)), .int (σ 1 0)]) (st := []) cal_X3_live ins_X3_live ml_X5_175 rfl (by decide) rfl rfl (by decide) rfl (Nat.le_of_ble_eq_true rfl) dX5_when_82 (fun r s h => co_X3_live rfl h) (fun r3 s4 => ?_)
          refine mv_pop dX5_when_85 rfl ?_
          exact vX5_when_86 hQ (fun s0 x2 x3 => ih s0 x2 x3) s4 x2 x3
      · refine mv_iload_n 2 dX5_when_56 rfl rfl ?_
        exact mv_iret hQ dX5_when_57
def bX5_when_18 (fu : Nat) (σ : mt_St) : Option (Int32 × mt_St) :=
  mt_call (fX5_finding fu σ (0 : Int32)) fun r1 s2 =>
  some (r1, s2)
set_option maxHeartbeats 4000000 in
set_option maxRecDepth 20000 in
theorem vX5_when_18 {K : mt_C} {fu : Nat} {r : Int32} {σf : mt_St} (hQ : mt_R K (some .int) (some (.int r)) σf) : ∀ (σ : mt_St), mt_V K cX5_when RX5 4 4 σ 18 [(0, .ref (mt_adr (kG K) 0))] [] (bX5_when_18 fu σ = some (r, σf)) := by
  intro σ
  unfold bX5_when_18
  refine mv_aload_n 0 dX5_when_18 rfl rfl ?_
  refine mv_iconst (v := 0) dX5_when_19 ic_0 ?_
  refine mv_cVwi (As := [.int (0 : Int32)]) (st := []) cal_X5_finding ins_X5_finding ml_X5_71 rfl (by decide) rfl rfl (by decide) rfl (Nat.le_of_ble_eq_true rfl) dX5_when_20 (fun r s h => co_X5_finding h) (fun r1 s2 => ?_)
  exact mv_iret hQ dX5_when_23
def fX5_when (fu : Nat) (σ : mt_St) (a1 : Int32) (a2 : Int32) : Option (Int32 × mt_St) :=
  mt_ask (fX5_isTreaty fu σ a1) fun r1 =>
  if r1 = 0 then
    bX5_when_18 fu σ
  else
    mt_ask (fX5_isWithin fu a2 (9999 : Int32)) fun r2 =>
    if r2 = 0 then
      bX5_when_18 fu σ
    else
      mt_call (fX5_foreseeUps fu σ (200 : Int32)) fun _ s4 =>
      mt_call (fX5_tryAlone fu s4 a1) fun _ s6 =>
      bX5_when_38 fu fu s6 a2 (0 : Int32)
set_option maxHeartbeats 4000000 in
set_option maxRecDepth 20000 in
theorem vX5_when {K : mt_C} {fu : Nat} {σ : mt_St} {a1 : Int32} {a2 : Int32} {r : Int32} {σf : mt_St} (hQ : mt_R K (some .int) (some (.int r)) σf) : mt_V K cX5_when RX5 4 4 σ 0 [(0, .ref (mt_adr (kG K) 0)), (1, .int a1), (2, .int a2)] [] (fX5_when fu σ a1 a2 = some (r, σf)) := by
  unfold fX5_when
  refine mv_aload_n 0 dX5_when_0 rfl rfl ?_
  refine mv_iload_n 1 dX5_when_1 rfl rfl ?_
  refine mv_cVri (As := [.int a1]) (st := []) cal_X5_isTreaty ins_X5_isTreaty ml_X5_98 rfl (by decide) rfl rfl (by decide) rfl (Nat.le_of_ble_eq_true rfl) dX5_when_2 (fun r h => co_X5_isTreaty h) (fun r1 => ?_)
  refine mv_if_eq 18 dX5_when_5 (by decide) ?_ ?_
  · refine mv_sub (lv' := [(0, .ref (mt_adr (kG K) 0))]) [0] rfl ?_
    exact vX5_when_18 hQ σ
  · refine mv_iload_n 2 dX5_when_8 rfl rfl ?_
    refine mv_sipush (v := 9999) dX5_when_9 sp_9999 ?_
    refine mv_cSri (As := [.int a2, .int (9999 : Int32)]) (st := []) cal_X5_isWithin sta_X5_isWithin ml_X5_67 rfl (by decide) rfl (Nat.le_of_ble_eq_true rfl) dX5_when_12 (fun r h => co_X5_isWithin h) (fun r2 => ?_)
    refine mv_if_ne 24 dX5_when_15 (by decide) ?_ ?_
    · refine mv_aload_n 0 dX5_when_24 rfl rfl ?_
      refine mv_sipush (v := 200) dX5_when_25 sp_200 ?_
      refine mv_cVwv (As := [.int (200 : Int32)]) (st := []) cal_X5_foreseeUps ins_X5_foreseeUps ml_X5_158 rfl (by decide) rfl rfl (by decide) rfl (Nat.le_of_ble_eq_true rfl) dX5_when_28 (fun r s h => co_X5_foreseeUps h) (fun r3 s4 => ?_)
      refine mv_aload_n 0 dX5_when_31 rfl rfl ?_
      refine mv_iload_n 1 dX5_when_32 rfl rfl ?_
      refine mv_cVwv (As := [.int a1]) (st := []) cal_X5_tryAlone ins_X5_tryAlone ml_X5_161 rfl (by decide) rfl rfl (by decide) rfl (Nat.le_of_ble_eq_true rfl) dX5_when_33 (fun r s h => co_X5_tryAlone h) (fun r5 s6 => ?_)
      refine mv_iconst (v := 0) dX5_when_36 ic_0 ?_
      refine mv_istore_n (lv' := [(0, .ref (mt_adr (kG K) 0)), (2, .int a2), (3, .int (0 : Int32))]) [1, 3, 0] dX5_when_37 rfl (by decide) rfl ?_
      exact vX5_when_38 hQ fu s6 a2 (0 : Int32)
    · refine mv_sub (lv' := [(0, .ref (mt_adr (kG K) 0))]) [0] rfl ?_
      exact vX5_when_18 hQ σ
theorem co_X5_when {l : Launch} {G : mt_G} {fu : Nat} {σ : mt_St} {a1 : Int32} {a2 : Int32} {r : Int32} {σf : mt_St}  (h : fX5_when fu σ a1 a2 = some (r, σf)) : mt_Con l G yX5_when cX5_when 4 (some .int) 4 [.ref (mt_adr G 0), .int a1, .int a2] σ (some (.int r)) σf :=
  mt_con (by decide) (Nat.le_of_ble_eq_true rfl) (fun K hl hG hQ => by subst hl; subst hG; exact fun _ => vX5_when  hQ h)
theorem dX5_yardFor_0 : decode cX5_yardFor 0 = .ok (.iload_n 1, 1) := by decide +kernel
theorem dX5_yardFor_1 : decode cX5_yardFor 1 = .ok (.bipush 60, 2) := by decide +kernel
theorem dX5_yardFor_3 : decode cX5_yardFor 3 = .ok (.invokestatic 67, 3) := by decide +kernel
theorem dX5_yardFor_6 : decode cX5_yardFor 6 = .ok (.ifCond .ne 9, 3) := by decide +kernel
theorem dX5_yardFor_9 : decode cX5_yardFor 9 = .ok (.aload_n 0, 1) := by decide +kernel
theorem dX5_yardFor_10 : decode cX5_yardFor 10 = .ok (.iconst 0, 1) := by decide +kernel
theorem dX5_yardFor_11 : decode cX5_yardFor 11 = .ok (.invokevirtual 71, 3) := by decide +kernel
theorem dX5_yardFor_14 : decode cX5_yardFor 14 = .ok (.ireturn, 1) := by decide +kernel
theorem dX5_yardFor_15 : decode cX5_yardFor 15 = .ok (.iconst 0, 1) := by decide +kernel
theorem dX5_yardFor_16 : decode cX5_yardFor 16 = .ok (.istore_n 2, 1) := by decide +kernel
theorem dX5_yardFor_17 : decode cX5_yardFor 17 = .ok (.iconst (-1), 1) := by decide +kernel
theorem dX5_yardFor_18 : decode cX5_yardFor 18 = .ok (.istore_n 3, 1) := by decide +kernel
theorem dX5_yardFor_19 : decode cX5_yardFor 19 = .ok (.iconst 0, 1) := by decide +kernel
theorem dX5_yardFor_20 : decode cX5_yardFor 20 = .ok (.istore 4, 2) := by decide +kernel
theorem dX5_yardFor_22 : decode cX5_yardFor 22 = .ok (.iload 4, 2) := by decide +kernel
theorem dX5_yardFor_24 : decode cX5_yardFor 24 = .ok (.bipush 12, 2) := by decide +kernel
theorem dX5_yardFor_26 : decode cX5_yardFor 26 = .ok (.if_icmp .ge 61, 3) := by decide +kernel
theorem dX5_yardFor_29 : decode cX5_yardFor 29 = .ok (.aload_n 0, 1) := by decide +kernel
theorem dX5_yardFor_30 : decode cX5_yardFor 30 = .ok (.getfield 23, 3) := by decide +kernel
theorem dX5_yardFor_33 : decode cX5_yardFor 33 = .ok (.aload_n 0, 1) := by decide +kernel
theorem dX5_yardFor_34 : decode cX5_yardFor 34 = .ok (.getfield 10, 3) := by decide +kernel
theorem dX5_yardFor_37 : decode cX5_yardFor 37 = .ok (.invokevirtual 168, 3) := by decide +kernel
theorem dX5_yardFor_40 : decode cX5_yardFor 40 = .ok (.aload_n 0, 1) := by decide +kernel
theorem dX5_yardFor_41 : decode cX5_yardFor 41 = .ok (.getfield 23, 3) := by decide +kernel
theorem dX5_yardFor_44 : decode cX5_yardFor 44 = .ok (.iconst 1, 1) := by decide +kernel
theorem dX5_yardFor_45 : decode cX5_yardFor 45 = .ok (.iload 4, 2) := by decide +kernel
theorem dX5_yardFor_47 : decode cX5_yardFor 47 = .ok (.ishl, 1) := by decide +kernel
theorem dX5_yardFor_48 : decode cX5_yardFor 48 = .ok (.putfield 78, 3) := by decide +kernel
theorem dX5_yardFor_51 : decode cX5_yardFor 51 = .ok (.aload_n 0, 1) := by decide +kernel
theorem dX5_yardFor_52 : decode cX5_yardFor 52 = .ok (.getfield 23, 3) := by decide +kernel
theorem dX5_yardFor_55 : decode cX5_yardFor 55 = .ok (.iload_n 1, 1) := by decide +kernel
theorem dX5_yardFor_56 : decode cX5_yardFor 56 = .ok (.invokevirtual 129, 3) := by decide +kernel
theorem dX5_yardFor_59 : decode cX5_yardFor 59 = .ok (.aload_n 0, 1) := by decide +kernel
theorem dX5_yardFor_60 : decode cX5_yardFor 60 = .ok (.getfield 23, 3) := by decide +kernel
theorem dX5_yardFor_63 : decode cX5_yardFor 63 = .ok (.getfield 137, 3) := by decide +kernel
theorem dX5_yardFor_66 : decode cX5_yardFor 66 = .ok (.iload_n 3, 1) := by decide +kernel
theorem dX5_yardFor_67 : decode cX5_yardFor 67 = .ok (.if_icmp .le 14, 3) := by decide +kernel
theorem dX5_yardFor_70 : decode cX5_yardFor 70 = .ok (.aload_n 0, 1) := by decide +kernel
theorem dX5_yardFor_71 : decode cX5_yardFor 71 = .ok (.getfield 23, 3) := by decide +kernel
theorem dX5_yardFor_74 : decode cX5_yardFor 74 = .ok (.getfield 137, 3) := by decide +kernel
theorem dX5_yardFor_77 : decode cX5_yardFor 77 = .ok (.istore_n 3, 1) := by decide +kernel
theorem dX5_yardFor_78 : decode cX5_yardFor 78 = .ok (.iload 4, 2) := by decide +kernel
theorem dX5_yardFor_80 : decode cX5_yardFor 80 = .ok (.istore_n 2, 1) := by decide +kernel
theorem dX5_yardFor_81 : decode cX5_yardFor 81 = .ok (.iinc 4 1, 3) := by decide +kernel
theorem dX5_yardFor_84 : decode cX5_yardFor 84 = .ok (.goto (-62), 3) := by decide +kernel
theorem dX5_yardFor_87 : decode cX5_yardFor 87 = .ok (.iload_n 2, 1) := by decide +kernel
theorem dX5_yardFor_88 : decode cX5_yardFor 88 = .ok (.ireturn, 1) := by decide +kernel
def bX5_yardFor_81 (fu : Nat) (k22 : mt_St → Int32 → Int32 → Int32 → Int32 → Option (Int32 × mt_St)) (σ : mt_St) (x1 : Int32) (x2 : Int32) (x3 : Int32) (x4 : Int32) : Option (Int32 × mt_St) :=
  k22 σ x1 x2 x3 (x4 + 1)
set_option maxHeartbeats 4000000 in
set_option maxRecDepth 20000 in
theorem vX5_yardFor_81 {K : mt_C} {fu : Nat} {r : Int32} {σf : mt_St} (hQ : mt_R K (some .int) (some (.int r)) σf) {k22 : mt_St → Int32 → Int32 → Int32 → Int32 → Option (Int32 × mt_St)} (hk22 : ∀ (s0 : mt_St) (x1 : Int32) (x2 : Int32) (x3 : Int32) (x4 : Int32), mt_V K cX5_yardFor RX5 5 6 s0 22 [(0, .ref (mt_adr (kG K) 0)), (1, .int x1), (2, .int x2), (3, .int x3), (4, .int x4)] [] (k22 s0 x1 x2 x3 x4 = some (r, σf))) : ∀ (σ : mt_St) (x1 : Int32) (x2 : Int32) (x3 : Int32) (x4 : Int32), mt_V K cX5_yardFor RX5 5 6 σ 81 [(0, .ref (mt_adr (kG K) 0)), (1, .int x1), (2, .int x2), (3, .int x3), (4, .int x4)] [] (bX5_yardFor_81 fu k22 σ x1 x2 x3 x4 = some (r, σf)) := by
  intro σ x1 x2 x3 x4
  unfold bX5_yardFor_81
  refine mv_iinc (k0 := 4) (v := x4 + 1) (lv' := [(0, .ref (mt_adr (kG K) 0)), (1, .int x1), (2, .int x2), (3, .int x3), (4, .int (x4 + 1))]) [1, 2, 3, 4, 0] dX5_yardFor_81 rfl (mt_inc ic_1) (by decide) rfl ?_
  refine mv_goto 22 dX5_yardFor_84 (by decide) ?_
  exact hk22 σ x1 x2 x3 (x4 + 1)
def bX5_yardFor_22 (fu : Nat) : Nat → mt_St → Int32 → Int32 → Int32 → Int32 → Option (Int32 × mt_St)
  | 0, _, _, _, _, _ => none
  | n + 1, σ, x1, x2, x3, x4 =>
    if (12 : Int32) ≤ x4 then
      some (x2, σ)
    else
      mt_call (fX4_become fu σ 25 1) fun _ s2 =>
      mt_bnd (mt_up s2 25 0 ((1 : Int32) <<< (x4 &&& 31))) fun s3 =>
      mt_call (fX4_passYears fu s3 25 x1) fun _ s5 =>
      if (s5 25 3) ≤ x3 then
        bX5_yardFor_81 fu (fun s0 x1 x2 x3 x4 => bX5_yardFor_22 fu n s0 x1 x2 x3 x4) s5 x1 x2 x3 x4
      else
        bX5_yardFor_81 fu (fun s0 x1 x2 x3 x4 => bX5_yardFor_22 fu n s0 x1 x2 x3 x4) s5 x1 x4 (s5 25 3) x4
set_option maxHeartbeats 4000000 in
set_option maxRecDepth 20000 in
theorem vX5_yardFor_22 {K : mt_C} {fu : Nat} {r : Int32} {σf : mt_St} (hQ : mt_R K (some .int) (some (.int r)) σf) : ∀ (n : Nat) (σ : mt_St) (x1 : Int32) (x2 : Int32) (x3 : Int32) (x4 : Int32), mt_V K cX5_yardFor RX5 5 6 σ 22 [(0, .ref (mt_adr (kG K) 0)), (1, .int x1), (2, .int x2), (3, .int x3), (4, .int x4)] [] (bX5_yardFor_22 fu n σ x1 x2 x3 x4 = some (r, σf)) := by
  intro n
  induction n with
  | zero => intro σ x1 x2 x3 x4; intro hP; unfold bX5_yardFor_22 at hP; cases hP
  | succ n ih =>
    intro σ x1 x2 x3 x4
    unfold bX5_yardFor_22
    refine mv_iload 4 dX5_yardFor_22 rfl ?_
    refine mv_bipush (v := 12) dX5_yardFor_24 bp_12 ?_
    refine mv_icmp_ge 87 dX5_yardFor_26 (by decide) ?_ ?_
    · refine mv_iload_n 2 dX5_yardFor_87 rfl rfl ?_
      exact mv_iret hQ dX5_yardFor_88
    · refine mv_aload_n 0 dX5_yardFor_29 rfl rfl ?_
      refine mg_X5_3 fl_X5_23 dX5_yardFor_30 ?_
      refine mv_aload_n 0 dX5_yardFor_33 rfl rfl ?_
      refine mg_X5_0 fl_X5_10 dX5_yardFor_34 ?_
      refine mv_cVwv (As := [.ref (mt_adr (kG K) 1)]) (st := []) cal_X4_become ins_X4_become ml_X5_168 rfl (by decide) rfl rfl (by decide) rfl (Nat.le_of_ble_eq_true rfl) dX5_yardFor_37 (fun r s h => co_X4_become rfl rfl h) (fun r1 s2 => ?_)
      refine mv_aload_n 0 dX5_yardFor_40 rfl rfl ?_
      refine mg_X5_3 fl_X5_23 dX5_yardFor_41 ?_
      refine mv_iconst (v := 1) dX5_yardFor_44 ic_1 ?_
      refine mv_iload 4 dX5_yardFor_45 rfl ?_
      refine mv_ishl dX5_yardFor_47 ?_
      refine mp_X4_0 rfl fl_X5_78 dX5_yardFor_48 (fun s3 => ?_)
      refine mv_aload_n 0 dX5_yardFor_51 rfl rfl ?_
      refine mg_X5_3 fl_X5_23 dX5_yardFor_52 ?_
      refine mv_iload_n 1 dX5_yardFor_55 rfl rfl ?_
      refine mv_cVwv (As := [.int x1]) (st := []) cal_X4_passYears ins_X4_passYears ml_X5_129 rfl (by decide) rfl rfl (by decide) rfl (Nat.le_of_ble_eq_true rfl) dX5_yardFor_56 (fun r s h => co_X4_passYears rfl h) (fun r4 s5 => ?_)
      refine mv_aload_n 0 dX5_yardFor_59 rfl rfl ?_
      refine mg_X5_3 fl_X5_23 dX5_yardFor_60 ?_
      refine mg_X4_3 rfl fl_X5_137 dX5_yardFor_63 ?_
      refine mv_iload_n 3 dX5_yardFor_66 rfl rfl ?_
      refine mv_icmp_le 81 dX5_yardFor_67 (by decide) ?_ ?_
      · exact vX5_yardFor_81 hQ (fun s0 x1 x2 x3 x4 => ih s0 x1 x2 x3 x4) s5 x1 x2 x3 x4
      · refine mv_aload_n 0 dX5_yardFor_70 rfl rfl ?_
        refine mg_X5_3 fl_X5_23 dX5_yardFor_71 ?_
        refine mg_X4_3 rfl fl_X5_137 dX5_yardFor_74 ?_
        refine mv_istore_n (lv' := [(0, .ref (mt_adr (kG K) 0)), (1, .int x1), (3, .int (s5 25 3)), (4, .int x4)]) [1, 2, 0, 4] dX5_yardFor_77 rfl (by decide) rfl ?_
        refine mv_iload 3 dX5_yardFor_78 rfl ?_
        refine mv_istore_n (lv' := [(0, .ref (mt_adr (kG K) 0)), (1, .int x1), (2, .int x4), (3, .int (s5 25 3)), (4, .int x4)]) [1, 2, 0, 3, 4] dX5_yardFor_80 rfl (by decide) rfl ?_
        exact vX5_yardFor_81 hQ (fun s0 x1 x2 x3 x4 => ih s0 x1 x2 x3 x4) s5 x1 x4 (s5 25 3) x4
def fX5_yardFor (fu : Nat) (σ : mt_St) (a1 : Int32) : Option (Int32 × mt_St) :=
  mt_ask (fX5_isWithin fu a1 (60 : Int32)) fun r1 =>
  if r1 = 0 then
    mt_call (fX5_finding fu σ (0 : Int32)) fun r2 s3 =>
    some (r2, s3)
  else
    bX5_yardFor_22 fu fu σ a1 (0 : Int32) (-1 : Int32) (0 : Int32)
set_option maxHeartbeats 4000000 in
set_option maxRecDepth 20000 in
theorem vX5_yardFor {K : mt_C} {fu : Nat} {σ : mt_St} {a1 : Int32} {r : Int32} {σf : mt_St} (hQ : mt_R K (some .int) (some (.int r)) σf) : mt_V K cX5_yardFor RX5 5 6 σ 0 [(0, .ref (mt_adr (kG K) 0)), (1, .int a1)] [] (fX5_yardFor fu σ a1 = some (r, σf)) := by
  unfold fX5_yardFor
  refine mv_iload_n 1 dX5_yardFor_0 rfl rfl ?_
  refine mv_bipush (v := 60) dX5_yardFor_1 bp_60 ?_
  refine mv_cSri (As := [.int a1, .int (60 : Int32)]) (st := []) cal_X5_isWithin sta_X5_isWithin ml_X5_67 rfl (by decide) rfl (Nat.le_of_ble_eq_true rfl) dX5_yardFor_3 (fun r h => co_X5_isWithin h) (fun r1 => ?_)
  refine mv_if_ne 15 dX5_yardFor_6 (by decide) ?_ ?_
  · refine mv_iconst (v := 0) dX5_yardFor_15 ic_0 ?_
    refine mv_istore_n (lv' := [(0, .ref (mt_adr (kG K) 0)), (1, .int a1), (2, .int (0 : Int32))]) [1, 2, 0] dX5_yardFor_16 rfl (by decide) rfl ?_
    refine mv_iconst (v := -1) dX5_yardFor_17 ic_m1 ?_
    refine mv_istore_n (lv' := [(0, .ref (mt_adr (kG K) 0)), (1, .int a1), (2, .int (0 : Int32)), (3, .int (-1 : Int32))]) [1, 2, 3, 0] dX5_yardFor_18 rfl (by decide) rfl ?_
    refine mv_iconst (v := 0) dX5_yardFor_19 ic_0 ?_
    refine mv_istore (lv' := [(0, .ref (mt_adr (kG K) 0)), (1, .int a1), (2, .int (0 : Int32)), (3, .int (-1 : Int32)), (4, .int (0 : Int32))]) [1, 2, 3, 4, 0] dX5_yardFor_20 (by decide) rfl ?_
    exact vX5_yardFor_22 hQ fu σ a1 (0 : Int32) (-1 : Int32) (0 : Int32)
  · refine mv_aload_n 0 dX5_yardFor_9 rfl rfl ?_
    refine mv_iconst (v := 0) dX5_yardFor_10 ic_0 ?_
    refine mv_cVwi (As := [.int (0 : Int32)]) (st := []) cal_X5_finding ins_X5_finding ml_X5_71 rfl (by decide) rfl rfl (by decide) rfl (Nat.le_of_ble_eq_true rfl) dX5_yardFor_11 (fun r s h => co_X5_finding h) (fun r2 s3 => ?_)
    exact mv_iret hQ dX5_yardFor_14
theorem co_X5_yardFor {l : Launch} {G : mt_G} {fu : Nat} {σ : mt_St} {a1 : Int32} {r : Int32} {σf : mt_St}  (h : fX5_yardFor fu σ a1 = some (r, σf)) : mt_Con l G yX5_yardFor cX5_yardFor 5 (some .int) 6 [.ref (mt_adr G 0), .int a1] σ (some (.int r)) σf :=
  mt_con (by decide) (Nat.le_of_ble_eq_true rfl) (fun K hl hG hQ => by subst hl; subst hG; exact fun _ => vX5_yardFor  hQ h)
theorem dX5_kindFor_0 : decode cX5_kindFor 0 = .ok (.aload_n 0, 1) := by decide +kernel
theorem dX5_kindFor_1 : decode cX5_kindFor 1 = .ok (.iload_n 1, 1) := by decide +kernel
theorem dX5_kindFor_2 : decode cX5_kindFor 2 = .ok (.invokevirtual 98, 3) := by decide +kernel
theorem dX5_kindFor_5 : decode cX5_kindFor 5 = .ok (.ifCond .eq 12, 3) := by decide +kernel
theorem dX5_kindFor_8 : decode cX5_kindFor 8 = .ok (.iload_n 2, 1) := by decide +kernel
theorem dX5_kindFor_9 : decode cX5_kindFor 9 = .ok (.bipush 60, 2) := by decide +kernel
theorem dX5_kindFor_11 : decode cX5_kindFor 11 = .ok (.invokestatic 67, 3) := by decide +kernel
theorem dX5_kindFor_14 : decode cX5_kindFor 14 = .ok (.ifCond .ne 9, 3) := by decide +kernel
theorem dX5_kindFor_17 : decode cX5_kindFor 17 = .ok (.aload_n 0, 1) := by decide +kernel
theorem dX5_kindFor_18 : decode cX5_kindFor 18 = .ok (.iconst 0, 1) := by decide +kernel
theorem dX5_kindFor_19 : decode cX5_kindFor 19 = .ok (.invokevirtual 71, 3) := by decide +kernel
theorem dX5_kindFor_22 : decode cX5_kindFor 22 = .ok (.ireturn, 1) := by decide +kernel
theorem dX5_kindFor_23 : decode cX5_kindFor 23 = .ok (.aload_n 0, 1) := by decide +kernel
theorem dX5_kindFor_24 : decode cX5_kindFor 24 = .ok (.iload_n 2, 1) := by decide +kernel
theorem dX5_kindFor_25 : decode cX5_kindFor 25 = .ok (.invokevirtual 158, 3) := by decide +kernel
theorem dX5_kindFor_28 : decode cX5_kindFor 28 = .ok (.iconst 0, 1) := by decide +kernel
theorem dX5_kindFor_29 : decode cX5_kindFor 29 = .ok (.istore_n 3, 1) := by decide +kernel
theorem dX5_kindFor_30 : decode cX5_kindFor 30 = .ok (.sipush 10000, 3) := by decide +kernel
theorem dX5_kindFor_33 : decode cX5_kindFor 33 = .ok (.istore 4, 2) := by decide +kernel
theorem dX5_kindFor_35 : decode cX5_kindFor 35 = .ok (.iconst 0, 1) := by decide +kernel
theorem dX5_kindFor_36 : decode cX5_kindFor 36 = .ok (.istore 5, 2) := by decide +kernel
theorem dX5_kindFor_38 : decode cX5_kindFor 38 = .ok (.iload 5, 2) := by decide +kernel
theorem dX5_kindFor_40 : decode cX5_kindFor 40 = .ok (.bipush 7, 2) := by decide +kernel
theorem dX5_kindFor_42 : decode cX5_kindFor 42 = .ok (.if_icmp .ge 67, 3) := by decide +kernel
theorem dX5_kindFor_45 : decode cX5_kindFor 45 = .ok (.aload_n 0, 1) := by decide +kernel
theorem dX5_kindFor_46 : decode cX5_kindFor 46 = .ok (.iload_n 1, 1) := by decide +kernel
theorem dX5_kindFor_47 : decode cX5_kindFor 47 = .ok (.invokevirtual 161, 3) := by decide +kernel
theorem dX5_kindFor_50 : decode cX5_kindFor 50 = .ok (.aload_n 0, 1) := by decide +kernel
theorem dX5_kindFor_51 : decode cX5_kindFor 51 = .ok (.getfield 29, 3) := by decide +kernel
theorem dX5_kindFor_54 : decode cX5_kindFor 54 = .ok (.iload 5, 2) := by decide +kernel
theorem dX5_kindFor_56 : decode cX5_kindFor 56 = .ok (.putfield 184, 3) := by decide +kernel
theorem dX5_kindFor_59 : decode cX5_kindFor 59 = .ok (.aload_n 0, 1) := by decide +kernel
theorem dX5_kindFor_60 : decode cX5_kindFor 60 = .ok (.getfield 29, 3) := by decide +kernel
theorem dX5_kindFor_63 : decode cX5_kindFor 63 = .ok (.aload_n 0, 1) := by decide +kernel
theorem dX5_kindFor_64 : decode cX5_kindFor 64 = .ok (.getfield 33, 3) := by decide +kernel
theorem dX5_kindFor_67 : decode cX5_kindFor 67 = .ok (.iload_n 2, 1) := by decide +kernel
theorem dX5_kindFor_68 : decode cX5_kindFor 68 = .ok (.aload_n 0, 1) := by decide +kernel
theorem dX5_kindFor_69 : decode cX5_kindFor 69 = .ok (.getfield 10, 3) := by decide +kernel
theorem dX5_kindFor_72 : decode cX5_kindFor 72 = .ok (.getfield 78, 3) := by decide +kernel
theorem dX5_kindFor_75 : decode cX5_kindFor 75 = .ok (.invokevirtual 164, 3) := by decide +kernel
theorem dX5_kindFor_78 : decode cX5_kindFor 78 = .ok (.pop, 1) := by decide +kernel
theorem dX5_kindFor_79 : decode cX5_kindFor 79 = .ok (.aload_n 0, 1) := by decide +kernel
theorem dX5_kindFor_80 : decode cX5_kindFor 80 = .ok (.getfield 29, 3) := by decide +kernel
theorem dX5_kindFor_83 : decode cX5_kindFor 83 = .ok (.getfield 172, 3) := by decide +kernel
theorem dX5_kindFor_86 : decode cX5_kindFor 86 = .ok (.iload 4, 2) := by decide +kernel
theorem dX5_kindFor_88 : decode cX5_kindFor 88 = .ok (.if_icmp .ge 15, 3) := by decide +kernel
theorem dX5_kindFor_91 : decode cX5_kindFor 91 = .ok (.aload_n 0, 1) := by decide +kernel
theorem dX5_kindFor_92 : decode cX5_kindFor 92 = .ok (.getfield 29, 3) := by decide +kernel
theorem dX5_kindFor_95 : decode cX5_kindFor 95 = .ok (.getfield 172, 3) := by decide +kernel
theorem dX5_kindFor_98 : decode cX5_kindFor 98 = .ok (.istore 4, 2) := by decide +kernel
theorem dX5_kindFor_100 : decode cX5_kindFor 100 = .ok (.iload 5, 2) := by decide +kernel
theorem dX5_kindFor_102 : decode cX5_kindFor 102 = .ok (.istore_n 3, 1) := by decide +kernel
theorem dX5_kindFor_103 : decode cX5_kindFor 103 = .ok (.iinc 5 1, 3) := by decide +kernel
theorem dX5_kindFor_106 : decode cX5_kindFor 106 = .ok (.goto (-68), 3) := by decide +kernel
theorem dX5_kindFor_109 : decode cX5_kindFor 109 = .ok (.iload_n 3, 1) := by decide +kernel
theorem dX5_kindFor_110 : decode cX5_kindFor 110 = .ok (.ireturn, 1) := by decide +kernel
def bX5_kindFor_103 (fu : Nat) (k38 : mt_St → Int32 → Int32 → Int32 → Int32 → Int32 → Option (Int32 × mt_St)) (σ : mt_St) (x1 : Int32) (x2 : Int32) (x3 : Int32) (x4 : Int32) (x5 : Int32) : Option (Int32 × mt_St) :=
  k38 σ x1 x2 x3 x4 (x5 + 1)
set_option maxHeartbeats 4000000 in
set_option maxRecDepth 20000 in
theorem vX5_kindFor_103 {K : mt_C} {fu : Nat} {r : Int32} {σf : mt_St} (hQ : mt_R K (some .int) (some (.int r)) σf) {k38 : mt_St → Int32 → Int32 → Int32 → Int32 → Int32 → Option (Int32 × mt_St)} (hk38 : ∀ (s0 : mt_St) (x1 : Int32) (x2 : Int32) (x3 : Int32) (x4 : Int32) (x5 : Int32), mt_V K cX5_kindFor RX5 6 5 s0 38 [(0, .ref (mt_adr (kG K) 0)), (1, .int x1), (2, .int x2), (3, .int x3), (4, .int x4), (5, .int x5)] [] (k38 s0 x1 x2 x3 x4 x5 = some (r, σf))) : ∀ (σ : mt_St) (x1 : Int32) (x2 : Int32) (x3 : Int32) (x4 : Int32) (x5 : Int32), mt_V K cX5_kindFor RX5 6 5 σ 103 [(0, .ref (mt_adr (kG K) 0)), (1, .int x1), (2, .int x2), (3, .int x3), (4, .int x4), (5, .int x5)] [] (bX5_kindFor_103 fu k38 σ x1 x2 x3 x4 x5 = some (r, σf)) := by
  intro σ x1 x2 x3 x4 x5
  unfold bX5_kindFor_103
  refine mv_iinc (k0 := 5) (v := x5 + 1) (lv' := [(0, .ref (mt_adr (kG K) 0)), (1, .int x1), (2, .int x2), (3, .int x3), (4, .int x4), (5, .int (x5 + 1))]) [1, 2, 3, 4, 5, 0] dX5_kindFor_103 rfl (mt_inc ic_1) (by decide) rfl ?_
  refine mv_goto 38 dX5_kindFor_106 (by decide) ?_
  exact hk38 σ x1 x2 x3 x4 (x5 + 1)
def bX5_kindFor_38 (fu : Nat) : Nat → mt_St → Int32 → Int32 → Int32 → Int32 → Int32 → Option (Int32 × mt_St)
  | 0, _, _, _, _, _, _ => none
  | n + 1, σ, x1, x2, x3, x4, x5 =>
    if (7 : Int32) ≤ x5 then
      some (x3, σ)
    else
      mt_call (fX5_tryAlone fu σ x1) fun _ s2 =>
      mt_bnd (mt_up s2 37 0 x5) fun s3 =>
      mt_call (fX3_liveYears fu s3 37 x2 (s3 1 0)) fun r4 s5 =>
      if x4 ≤ (s5 37 7) then
        bX5_kindFor_103 fu (fun s0 x1 x2 x3 x4 x5 => bX5_kindFor_38 fu n s0 x1 x2 x3 x4 x5) s5 x1 x2 x3 x4 x5
      else
        bX5_kindFor_103 fu (fun s0 x1 x2 x3 x4 x5 => bX5_kindFor_38 fu n s0 x1 x2 x3 x4 x5) s5 x1 x2 x5 (s5 37 7) x5
set_option maxHeartbeats 4000000 in
set_option maxRecDepth 20000 in
theorem vX5_kindFor_38 {K : mt_C} {fu : Nat} {r : Int32} {σf : mt_St} (hQ : mt_R K (some .int) (some (.int r)) σf) : ∀ (n : Nat) (σ : mt_St) (x1 : Int32) (x2 : Int32) (x3 : Int32) (x4 : Int32) (x5 : Int32), mt_V K cX5_kindFor RX5 6 5 σ 38 [(0, .ref (mt_adr (kG K) 0)), (1, .int x1), (2, .int x2), (3, .int x3), (4, .int x4), (5, .int x5)] [] (bX5_kindFor_38 fu n σ x1 x2 x3 x4 x5 = some (r, σf)) := by
  intro n
  induction n with
  | zero => intro σ x1 x2 x3 x4 x5; intro hP; unfold bX5_kindFor_38 at hP; cases hP
  | succ n ih =>
    intro σ x1 x2 x3 x4 x5
    unfold bX5_kindFor_38
    refine mv_iload 5 dX5_kindFor_38 rfl ?_
    refine mv_bipush (v := 7) dX5_kindFor_40 bp_7 ?_
    refine mv_icmp_ge 109 dX5_kindFor_42 (by decide) ?_ ?_
    · refine mv_iload_n 3 dX5_kindFor_109 rfl rfl ?_
      exact mv_iret hQ dX5_kindFor_110
    · refine mv_aload_n 0 dX5_kindFor_45 rfl rfl ?_
      refine mv_iload_n 1 dX5_kindFor_46 rfl rfl ?_
      refine mv_cVwv (As := [.int x1]) (st := []) cal_X5_tryAlone ins_X5_tryAlone ml_X5_161 rfl (by decide) rfl rfl (by decide) rfl (Nat.le_of_ble_eq_true rfl) dX5_kindFor_47 (fun r s h => co_X5_tryAlone h) (fun r1 s2 => ?_)
      refine mv_aload_n 0 dX5_kindFor_50 rfl rfl ?_
      refine mg_X5_4 fl_X5_29 dX5_kindFor_51 ?_
      refine mv_iload 5 dX5_kindFor_54 rfl ?_
      refine mp_X3_0 rfl fl_X5_184 dX5_kindFor_56 (fun s3 => ?_)
      refine mv_aload_n 0 dX5_kindFor_59 rfl rfl ?_
      refine mg_X5_4 fl_X5_29 dX5_kindFor_60 ?_
      refine mv_aload_n 0 dX5_kindFor_63 rfl rfl ?_
      refine mg_X5_5 fl_X5_33 dX5_kindFor_64 ?_
      refine mv_iload_n 2 dX5_kindFor_67 rfl rfl ?_
      refine mv_aload_n 0 dX5_kindFor_68 rfl rfl ?_
      refine mg_X5_0 fl_X5_10 dX5_kindFor_69 ?_
      refine mg_X4_0 rfl fl_X5_78 dX5_kindFor_72 ?_
      refine mv_cVwi (As := [.ref (mt_adr (kG K) 38), .int x2, .int (s3 1 0)]) (st := []) cal_X3_liveYears ins_X3_liveYears ml_X5_164 rfl (by decide) rfl rfl (by decide) rfl (Nat.le_of_ble_eq_true rfl) dX5_kindFor_75 (fun r s h => co_X3_liveYears rfl h) (fun r4 s5 => ?_)
      refine mv_pop dX5_kindFor_78 rfl ?_
      refine mv_aload_n 0 dX5_kindFor_79 rfl rfl ?_
      refine mg_X5_4 fl_X5_29 dX5_kindFor_80 ?_
      refine mg_X3_7 rfl fl_X5_172 dX5_kindFor_83 ?_
      refine mv_iload 4 dX5_kindFor_86 rfl ?_
      refine mv_icmp_ge 103 dX5_kindFor_88 (by decide) ?_ ?_
      · exact vX5_kindFor_103 hQ (fun s0 x1 x2 x3 x4 x5 => ih s0 x1 x2 x3 x4 x5) s5 x1 x2 x3 x4 x5
      · refine mv_aload_n 0 dX5_kindFor_91 rfl rfl ?_
        refine mg_X5_4 fl_X5_29 dX5_kindFor_92 ?_
        refine mg_X3_7 rfl fl_X5_172 dX5_kindFor_95 ?_
        refine mv_istore (lv' := [(0, .ref (mt_adr (kG K) 0)), (1, .int x1), (2, .int x2), (4, .int (s5 37 7)), (5, .int x5)]) [1, 2, 3, 0, 5] dX5_kindFor_98 (by decide) rfl ?_
        refine mv_iload 4 dX5_kindFor_100 rfl ?_
        refine mv_istore_n (lv' := [(0, .ref (mt_adr (kG K) 0)), (1, .int x1), (2, .int x2), (3, .int x5), (4, .int (s5 37 7)), (5, .int x5)]) [1, 2, 3, 0, 4, 5] dX5_kindFor_102 rfl (by decide) rfl ?_
        exact vX5_kindFor_103 hQ (fun s0 x1 x2 x3 x4 x5 => ih s0 x1 x2 x3 x4 x5) s5 x1 x2 x5 (s5 37 7) x5
def bX5_kindFor_17 (fu : Nat) (σ : mt_St) : Option (Int32 × mt_St) :=
  mt_call (fX5_finding fu σ (0 : Int32)) fun r1 s2 =>
  some (r1, s2)
set_option maxHeartbeats 4000000 in
set_option maxRecDepth 20000 in
theorem vX5_kindFor_17 {K : mt_C} {fu : Nat} {r : Int32} {σf : mt_St} (hQ : mt_R K (some .int) (some (.int r)) σf) : ∀ (σ : mt_St), mt_V K cX5_kindFor RX5 6 5 σ 17 [(0, .ref (mt_adr (kG K) 0))] [] (bX5_kindFor_17 fu σ = some (r, σf)) := by
  intro σ
  unfold bX5_kindFor_17
  refine mv_aload_n 0 dX5_kindFor_17 rfl rfl ?_
  refine mv_iconst (v := 0) dX5_kindFor_18 ic_0 ?_
  refine mv_cVwi (As := [.int (0 : Int32)]) (st := []) cal_X5_finding ins_X5_finding ml_X5_71 rfl (by decide) rfl rfl (by decide) rfl (Nat.le_of_ble_eq_true rfl) dX5_kindFor_19 (fun r s h => co_X5_finding h) (fun r1 s2 => ?_)
  exact mv_iret hQ dX5_kindFor_22
def fX5_kindFor (fu : Nat) (σ : mt_St) (a1 : Int32) (a2 : Int32) : Option (Int32 × mt_St) :=
  mt_ask (fX5_isTreaty fu σ a1) fun r1 =>
  if r1 = 0 then
    bX5_kindFor_17 fu σ
  else
    mt_ask (fX5_isWithin fu a2 (60 : Int32)) fun r2 =>
    if r2 = 0 then
      bX5_kindFor_17 fu σ
    else
      mt_call (fX5_foreseeUps fu σ a2) fun _ s4 =>
      bX5_kindFor_38 fu fu s4 a1 a2 (0 : Int32) (10000 : Int32) (0 : Int32)
set_option maxHeartbeats 4000000 in
set_option maxRecDepth 20000 in
theorem vX5_kindFor {K : mt_C} {fu : Nat} {σ : mt_St} {a1 : Int32} {a2 : Int32} {r : Int32} {σf : mt_St} (hQ : mt_R K (some .int) (some (.int r)) σf) : mt_V K cX5_kindFor RX5 6 5 σ 0 [(0, .ref (mt_adr (kG K) 0)), (1, .int a1), (2, .int a2)] [] (fX5_kindFor fu σ a1 a2 = some (r, σf)) := by
  unfold fX5_kindFor
  refine mv_aload_n 0 dX5_kindFor_0 rfl rfl ?_
  refine mv_iload_n 1 dX5_kindFor_1 rfl rfl ?_
  refine mv_cVri (As := [.int a1]) (st := []) cal_X5_isTreaty ins_X5_isTreaty ml_X5_98 rfl (by decide) rfl rfl (by decide) rfl (Nat.le_of_ble_eq_true rfl) dX5_kindFor_2 (fun r h => co_X5_isTreaty h) (fun r1 => ?_)
  refine mv_if_eq 17 dX5_kindFor_5 (by decide) ?_ ?_
  · refine mv_sub (lv' := [(0, .ref (mt_adr (kG K) 0))]) [0] rfl ?_
    exact vX5_kindFor_17 hQ σ
  · refine mv_iload_n 2 dX5_kindFor_8 rfl rfl ?_
    refine mv_bipush (v := 60) dX5_kindFor_9 bp_60 ?_
    refine mv_cSri (As := [.int a2, .int (60 : Int32)]) (st := []) cal_X5_isWithin sta_X5_isWithin ml_X5_67 rfl (by decide) rfl (Nat.le_of_ble_eq_true rfl) dX5_kindFor_11 (fun r h => co_X5_isWithin h) (fun r2 => ?_)
    refine mv_if_ne 23 dX5_kindFor_14 (by decide) ?_ ?_
    · refine mv_aload_n 0 dX5_kindFor_23 rfl rfl ?_
      refine mv_iload_n 2 dX5_kindFor_24 rfl rfl ?_
      refine mv_cVwv (As := [.int a2]) (st := []) cal_X5_foreseeUps ins_X5_foreseeUps ml_X5_158 rfl (by decide) rfl rfl (by decide) rfl (Nat.le_of_ble_eq_true rfl) dX5_kindFor_25 (fun r s h => co_X5_foreseeUps h) (fun r3 s4 => ?_)
      refine mv_iconst (v := 0) dX5_kindFor_28 ic_0 ?_
      refine mv_istore_n (lv' := [(0, .ref (mt_adr (kG K) 0)), (1, .int a1), (2, .int a2), (3, .int (0 : Int32))]) [1, 2, 3, 0] dX5_kindFor_29 rfl (by decide) rfl ?_
      refine mv_sipush (v := 10000) dX5_kindFor_30 sp_10000 ?_
      refine mv_istore (lv' := [(0, .ref (mt_adr (kG K) 0)), (1, .int a1), (2, .int a2), (3, .int (0 : Int32)), (4, .int (10000 : Int32))]) [1, 2, 3, 4, 0] dX5_kindFor_33 (by decide) rfl ?_
      refine mv_iconst (v := 0) dX5_kindFor_35 ic_0 ?_
      refine mv_istore (lv' := [(0, .ref (mt_adr (kG K) 0)), (1, .int a1), (2, .int a2), (3, .int (0 : Int32)), (4, .int (10000 : Int32)), (5, .int (0 : Int32))]) [1, 2, 3, 4, 5, 0] dX5_kindFor_36 (by decide) rfl ?_
      exact vX5_kindFor_38 hQ fu s4 a1 a2 (0 : Int32) (10000 : Int32) (0 : Int32)
    · refine mv_sub (lv' := [(0, .ref (mt_adr (kG K) 0))]) [0] rfl ?_
      exact vX5_kindFor_17 hQ σ
theorem co_X5_kindFor {l : Launch} {G : mt_G} {fu : Nat} {σ : mt_St} {a1 : Int32} {a2 : Int32} {r : Int32} {σf : mt_St}  (h : fX5_kindFor fu σ a1 a2 = some (r, σf)) : mt_Con l G yX5_kindFor cX5_kindFor 6 (some .int) 5 [.ref (mt_adr G 0), .int a1, .int a2] σ (some (.int r)) σf :=
  mt_con (by decide) (Nat.le_of_ble_eq_true rfl) (fun K hl hG hQ => by subst hl; subst hG; exact fun _ => vX5_kindFor  hQ h)
theorem dX5_strike_0 : decode cX5_strike 0 = .ok (.aload_n 0, 1) := by decide +kernel
theorem dX5_strike_1 : decode cX5_strike 1 = .ok (.iload_n 1, 1) := by decide +kernel
theorem dX5_strike_2 : decode cX5_strike 2 = .ok (.invokevirtual 98, 3) := by decide +kernel
theorem dX5_strike_5 : decode cX5_strike 5 = .ok (.ifCond .eq 12, 3) := by decide +kernel
theorem dX5_strike_8 : decode cX5_strike 8 = .ok (.iload_n 2, 1) := by decide +kernel
theorem dX5_strike_9 : decode cX5_strike 9 = .ok (.bipush 60, 2) := by decide +kernel
theorem dX5_strike_11 : decode cX5_strike 11 = .ok (.invokestatic 67, 3) := by decide +kernel
theorem dX5_strike_14 : decode cX5_strike 14 = .ok (.ifCond .ne 9, 3) := by decide +kernel
theorem dX5_strike_17 : decode cX5_strike 17 = .ok (.aload_n 0, 1) := by decide +kernel
theorem dX5_strike_18 : decode cX5_strike 18 = .ok (.iconst 0, 1) := by decide +kernel
theorem dX5_strike_19 : decode cX5_strike 19 = .ok (.invokevirtual 71, 3) := by decide +kernel
theorem dX5_strike_22 : decode cX5_strike 22 = .ok (.ireturn, 1) := by decide +kernel
theorem dX5_strike_23 : decode cX5_strike 23 = .ok (.aload_n 0, 1) := by decide +kernel
theorem dX5_strike_24 : decode cX5_strike 24 = .ok (.iload_n 2, 1) := by decide +kernel
theorem dX5_strike_25 : decode cX5_strike 25 = .ok (.invokevirtual 158, 3) := by decide +kernel
theorem dX5_strike_28 : decode cX5_strike 28 = .ok (.iconst 0, 1) := by decide +kernel
theorem dX5_strike_29 : decode cX5_strike 29 = .ok (.istore_n 3, 1) := by decide +kernel
theorem dX5_strike_30 : decode cX5_strike 30 = .ok (.iconst 0, 1) := by decide +kernel
theorem dX5_strike_31 : decode cX5_strike 31 = .ok (.istore 4, 2) := by decide +kernel
theorem dX5_strike_33 : decode cX5_strike 33 = .ok (.iload 4, 2) := by decide +kernel
theorem dX5_strike_35 : decode cX5_strike 35 = .ok (.bipush 12, 2) := by decide +kernel
theorem dX5_strike_37 : decode cX5_strike 37 = .ok (.if_icmp .ge 70, 3) := by decide +kernel
theorem dX5_strike_40 : decode cX5_strike 40 = .ok (.aload_n 0, 1) := by decide +kernel
theorem dX5_strike_41 : decode cX5_strike 41 = .ok (.iload_n 1, 1) := by decide +kernel
theorem dX5_strike_42 : decode cX5_strike 42 = .ok (.invokevirtual 161, 3) := by decide +kernel
theorem dX5_strike_45 : decode cX5_strike 45 = .ok (.aload_n 0, 1) := by decide +kernel
theorem dX5_strike_46 : decode cX5_strike 46 = .ok (.getfield 29, 3) := by decide +kernel
theorem dX5_strike_49 : decode cX5_strike 49 = .ok (.dup, 1) := by decide +kernel
theorem dX5_strike_50 : decode cX5_strike 50 = .ok (.getfield 187, 3) := by decide +kernel
theorem dX5_strike_53 : decode cX5_strike 53 = .ok (.iconst 1, 1) := by decide +kernel
theorem dX5_strike_54 : decode cX5_strike 54 = .ok (.iload 4, 2) := by decide +kernel
theorem dX5_strike_56 : decode cX5_strike 56 = .ok (.ishl, 1) := by decide +kernel
theorem dX5_strike_57 : decode cX5_strike 57 = .ok (.iconst (-1), 1) := by decide +kernel
theorem dX5_strike_58 : decode cX5_strike 58 = .ok (.ixor, 1) := by decide +kernel
theorem dX5_strike_59 : decode cX5_strike 59 = .ok (.iand, 1) := by decide +kernel
theorem dX5_strike_60 : decode cX5_strike 60 = .ok (.putfield 187, 3) := by decide +kernel
theorem dX5_strike_63 : decode cX5_strike 63 = .ok (.aload_n 0, 1) := by decide +kernel
theorem dX5_strike_64 : decode cX5_strike 64 = .ok (.getfield 29, 3) := by decide +kernel
theorem dX5_strike_67 : decode cX5_strike 67 = .ok (.aload_n 0, 1) := by decide +kernel
theorem dX5_strike_68 : decode cX5_strike 68 = .ok (.getfield 33, 3) := by decide +kernel
theorem dX5_strike_71 : decode cX5_strike 71 = .ok (.iload_n 2, 1) := by decide +kernel
theorem dX5_strike_72 : decode cX5_strike 72 = .ok (.aload_n 0, 1) := by decide +kernel
theorem dX5_strike_73 : decode cX5_strike 73 = .ok (.getfield 10, 3) := by decide +kernel
theorem dX5_strike_76 : decode cX5_strike 76 = .ok (.getfield 78, 3) := by decide +kernel
theorem dX5_strike_79 : decode cX5_strike 79 = .ok (.invokevirtual 164, 3) := by decide +kernel
theorem dX5_strike_82 : decode cX5_strike 82 = .ok (.pop, 1) := by decide +kernel
theorem dX5_strike_83 : decode cX5_strike 83 = .ok (.aload_n 0, 1) := by decide +kernel
theorem dX5_strike_84 : decode cX5_strike 84 = .ok (.getfield 29, 3) := by decide +kernel
theorem dX5_strike_87 : decode cX5_strike 87 = .ok (.getfield 190, 3) := by decide +kernel
theorem dX5_strike_90 : decode cX5_strike 90 = .ok (.iconst 1, 1) := by decide +kernel
theorem dX5_strike_91 : decode cX5_strike 91 = .ok (.if_icmp .ne 10, 3) := by decide +kernel
theorem dX5_strike_94 : decode cX5_strike 94 = .ok (.iload_n 3, 1) := by decide +kernel
theorem dX5_strike_95 : decode cX5_strike 95 = .ok (.iconst 1, 1) := by decide +kernel
theorem dX5_strike_96 : decode cX5_strike 96 = .ok (.iload 4, 2) := by decide +kernel
theorem dX5_strike_98 : decode cX5_strike 98 = .ok (.ishl, 1) := by decide +kernel
theorem dX5_strike_99 : decode cX5_strike 99 = .ok (.ior, 1) := by decide +kernel
theorem dX5_strike_100 : decode cX5_strike 100 = .ok (.istore_n 3, 1) := by decide +kernel
theorem dX5_strike_101 : decode cX5_strike 101 = .ok (.iinc 4 1, 3) := by decide +kernel
theorem dX5_strike_104 : decode cX5_strike 104 = .ok (.goto (-71), 3) := by decide +kernel
theorem dX5_strike_107 : decode cX5_strike 107 = .ok (.iload_n 3, 1) := by decide +kernel
theorem dX5_strike_108 : decode cX5_strike 108 = .ok (.ireturn, 1) := by decide +kernel
def bX5_strike_101 (fu : Nat) (k33 : mt_St → Int32 → Int32 → Int32 → Int32 → Option (Int32 × mt_St)) (σ : mt_St) (x1 : Int32) (x2 : Int32) (x3 : Int32) (x4 : Int32) : Option (Int32 × mt_St) :=
  k33 σ x1 x2 x3 (x4 + 1)
set_option maxHeartbeats 4000000 in
set_option maxRecDepth 20000 in
theorem vX5_strike_101 {K : mt_C} {fu : Nat} {r : Int32} {σf : mt_St} (hQ : mt_R K (some .int) (some (.int r)) σf) {k33 : mt_St → Int32 → Int32 → Int32 → Int32 → Option (Int32 × mt_St)} (hk33 : ∀ (s0 : mt_St) (x1 : Int32) (x2 : Int32) (x3 : Int32) (x4 : Int32), mt_V K cX5_strike RX5 5 5 s0 33 [(0, .ref (mt_adr (kG K) 0)), (1, .int x1), (2, .int x2), (3, .int x3), (4, .int x4)] [] (k33 s0 x1 x2 x3 x4 = some (r, σf))) : ∀ (σ : mt_St) (x1 : Int32) (x2 : Int32) (x3 : Int32) (x4 : Int32), mt_V K cX5_strike RX5 5 5 σ 101 [(0, .ref (mt_adr (kG K) 0)), (1, .int x1), (2, .int x2), (3, .int x3), (4, .int x4)] [] (bX5_strike_101 fu k33 σ x1 x2 x3 x4 = some (r, σf)) := by
  intro σ x1 x2 x3 x4
  unfold bX5_strike_101
  refine mv_iinc (k0 := 4) (v := x4 + 1) (lv' := [(0, .ref (mt_adr (kG K) 0)), (1, .int x1), (2, .int x2), (3, .int x3), (4, .int (x4 + 1))]) [1, 2, 3, 4, 0] dX5_strike_101 rfl (mt_inc ic_1) (by decide) rfl ?_
  refine mv_goto 33 dX5_strike_104 (by decide) ?_
  exact hk33 σ x1 x2 x3 (x4 + 1)
def bX5_strike_33 (fu : Nat) : Nat → mt_St → Int32 → Int32 → Int32 → Int32 → Option (Int32 × mt_St)
  | 0, _, _, _, _, _ => none
  | n + 1, σ, x1, x2, x3, x4 =>
    if (12 : Int32) ≤ x4 then
      some (x3, σ)
    else
      mt_call (fX5_tryAlone fu σ x1) fun _ s2 =>
      mt_bnd (mt_up s2 37 3 ((s2 37 3) &&& (((1 : Int32) <<< (x4 &&& 31)) ^^^ (-1 : Int32)))) fun s3 =>
      mt_call (fX3_liveYears fu s3 37 x2 (s3 1 0)) fun r4 s5 =>
      if (s5 37 4) = (1 : Int32) then
        bX5_strike_101 fu (fun s0 x1 x2 x3 x4 => bX5_strike_33 fu n s0 x1 x2 x3 x4) s5 x1 x2 (x3 ||| ((1 : Int32) <<< (x4 &&& 31))) x4
      else
        bX5_strike_101 fu (fun s0 x1 x2 x3 x4 => bX5_strike_33 fu n s0 x1 x2 x3 x4) s5 x1 x2 x3 x4
set_option maxHeartbeats 4000000 in
set_option maxRecDepth 20000 in
theorem vX5_strike_33 {K : mt_C} {fu : Nat} {r : Int32} {σf : mt_St} (hQ : mt_R K (some .int) (some (.int r)) σf) : ∀ (n : Nat) (σ : mt_St) (x1 : Int32) (x2 : Int32) (x3 : Int32) (x4 : Int32), mt_V K cX5_strike RX5 5 5 σ 33 [(0, .ref (mt_adr (kG K) 0)), (1, .int x1), (2, .int x2), (3, .int x3), (4, .int x4)] [] (bX5_strike_33 fu n σ x1 x2 x3 x4 = some (r, σf)) := by
  intro n
  induction n with
  | zero => intro σ x1 x2 x3 x4; intro hP; unfold bX5_strike_33 at hP; cases hP
  | succ n ih =>
    intro σ x1 x2 x3 x4
    unfold bX5_strike_33
    refine mv_iload 4 dX5_strike_33 rfl ?_
    refine mv_bipush (v := 12) dX5_strike_35 bp_12 ?_
    refine mv_icmp_ge 107 dX5_strike_37 (by decide) ?_ ?_
    · refine mv_iload_n 3 dX5_strike_107 rfl rfl ?_
      exact mv_iret hQ dX5_strike_108
    · refine mv_aload_n 0 dX5_strike_40 rfl rfl ?_
      refine mv_iload_n 1 dX5_strike_41 rfl rfl ?_
      refine mv_cVwv (As := [.int x1]) (st := []) cal_X5_tryAlone ins_X5_tryAlone ml_X5_161 rfl (by decide) rfl rfl (by decide) rfl (Nat.le_of_ble_eq_true rfl) dX5_strike_42 (fun r s h => co_X5_tryAlone h) (fun r1 s2 => ?_)
      refine mv_aload_n 0 dX5_strike_45 rfl rfl ?_
      refine mg_X5_4 fl_X5_29 dX5_strike_46 ?_
      refine mv_dup dX5_strike_49 rfl ?_
      refine mg_X3_3 rfl fl_X5_187 dX5_strike_50 ?_
      refine mv_iconst (v := 1) dX5_strike_53 ic_1 ?_
      refine mv_iload 4 dX5_strike_54 rfl ?_
      refine mv_ishl dX5_strike_56 ?_
      refine mv_iconst (v := -1) dX5_strike_57 ic_m1 ?_
      refine mv_ixor dX5_strike_58 ?_
      refine mv_iand dX5_strike_59 ?_
      refine mp_X3_3 rfl fl_X5_187 dX5_strike_60 (fun s3 => ?_)
      refine mv_aload_n 0 dX5_strike_63 rfl rfl ?_
      refine mg_X5_4 fl_X5_29 dX5_strike_64 ?_
      refine mv_aload_n 0 dX5_strike_67 rfl rfl ?_
      refine mg_X5_5 fl_X5_33 dX5_strike_68 ?_
      refine mv_iload_n 2 dX5_strike_71 rfl rfl ?_
      refine mv_aload_n 0 dX5_strike_72 rfl rfl ?_
      refine mg_X5_0 fl_X5_10 dX5_strike_73 ?_
      refine mg_X4_0 rfl fl_X5_78 dX5_strike_76 ?_
      refine mv_cVwi (As := [.ref (mt_adr (kG K) 38), .int x2, .int (s3 1 0)]) (st := []) cal_X3_liveYears ins_X3_liveYears ml_X5_164 rfl (by decide) rfl rfl (by decide) rfl (Nat.le_of_ble_eq_true rfl) dX5_strike_79 (fun r s h => co_X3_liveYears rfl h) (fun r4 s5 => ?_)
      refine mv_pop dX5_strike_82 rfl ?_
      refine mv_aload_n 0 dX5_strike_83 rfl rfl ?_
      refine mg_X5_4 fl_X5_29 dX5_strike_84 ?_
      refine mg_X3_4 rfl fl_X5_190 dX5_strike_87 ?_
      refine mv_iconst (v := 1) dX5_strike_90 ic_1 ?_
      refine mv_icmp_ne 101 dX5_strike_91 (by decide) ?_ ?_
      · exact vX5_strike_101 hQ (fun s0 x1 x2 x3 x4 => ih s0 x1 x2 x3 x4) s5 x1 x2 x3 x4
      · refine mv_iload_n 3 dX5_strike_94 rfl rfl ?_
        refine mv_iconst (v := 1) dX5_strike_95 ic_1 ?_
        refine mv_iload 4 dX5_strike_96 rfl ?_
        refine mv_ishl dX5_strike_98 ?_
        refine mv_ior dX5_strike_99 ?_
        refine mv_istore_n (lv' := [(0, .ref (mt_adr (kG K) 0)), (1, .int x1), (2, .int x2), (3, .int (x3 ||| ((1 : Int32) <<< (x4 &&& 31)))), (4, .int x4)]) [1, 2, 3, 0, 4] dX5_strike_100 rfl (by decide) rfl ?_
        exact vX5_strike_101 hQ (fun s0 x1 x2 x3 x4 => ih s0 x1 x2 x3 x4) s5 x1 x2 (x3 ||| ((1 : Int32) <<< (x4 &&& 31))) x4
def bX5_strike_17 (fu : Nat) (σ : mt_St) : Option (Int32 × mt_St) :=
  mt_call (fX5_finding fu σ (0 : Int32)) fun r1 s2 =>
  some (r1, s2)
set_option maxHeartbeats 4000000 in
set_option maxRecDepth 20000 in
theorem vX5_strike_17 {K : mt_C} {fu : Nat} {r : Int32} {σf : mt_St} (hQ : mt_R K (some .int) (some (.int r)) σf) : ∀ (σ : mt_St), mt_V K cX5_strike RX5 5 5 σ 17 [(0, .ref (mt_adr (kG K) 0))] [] (bX5_strike_17 fu σ = some (r, σf)) := by
  intro σ
  unfold bX5_strike_17
  refine mv_aload_n 0 dX5_strike_17 rfl rfl ?_
  refine mv_iconst (v := 0) dX5_strike_18 ic_0 ?_
  refine mv_cVwi (As := [.int (0 : Int32)]) (st := []) cal_X5_finding ins_X5_finding ml_X5_71 rfl (by decide) rfl rfl (by decide) rfl (Nat.le_of_ble_eq_true rfl) dX5_strike_19 (fun r s h => co_X5_finding h) (fun r1 s2 => ?_)
  exact mv_iret hQ dX5_strike_22
def fX5_strike (fu : Nat) (σ : mt_St) (a1 : Int32) (a2 : Int32) : Option (Int32 × mt_St) :=
  mt_ask (fX5_isTreaty fu σ a1) fun r1 =>
  if r1 = 0 then
    bX5_strike_17 fu σ
  else
    mt_ask (fX5_isWithin fu a2 (60 : Int32)) fun r2 =>
    if r2 = 0 then
      bX5_strike_17 fu σ
    else
      mt_call (fX5_foreseeUps fu σ a2) fun _ s4 =>
      bX5_strike_33 fu fu s4 a1 a2 (0 : Int32) (0 : Int32)
set_option maxHeartbeats 4000000 in
set_option maxRecDepth 20000 in
theorem vX5_strike {K : mt_C} {fu : Nat} {σ : mt_St} {a1 : Int32} {a2 : Int32} {r : Int32} {σf : mt_St} (hQ : mt_R K (some .int) (some (.int r)) σf) : mt_V K cX5_strike RX5 5 5 σ 0 [(0, .ref (mt_adr (kG K) 0)), (1, .int a1), (2, .int a2)] [] (fX5_strike fu σ a1 a2 = some (r, σf)) := by
  unfold fX5_strike
  refine mv_aload_n 0 dX5_strike_0 rfl rfl ?_
  refine mv_iload_n 1 dX5_strike_1 rfl rfl ?_
  refine mv_cVri (As := [.int a1]) (st := []) cal_X5_isTreaty ins_X5_isTreaty ml_X5_98 rfl (by decide) rfl rfl (by decide) rfl (Nat.le_of_ble_eq_true rfl) dX5_strike_2 (fun r h => co_X5_isTreaty h) (fun r1 => ?_)
  refine mv_if_eq 17 dX5_strike_5 (by decide) ?_ ?_
  · refine mv_sub (lv' := [(0, .ref (mt_adr (kG K) 0))]) [0] rfl ?_
    exact vX5_strike_17 hQ σ
  · refine mv_iload_n 2 dX5_strike_8 rfl rfl ?_
    refine mv_bipush (v := 60) dX5_strike_9 bp_60 ?_
    refine mv_cSri (As := [.int a2, .int (60 : Int32)]) (st := []) cal_X5_isWithin sta_X5_isWithin ml_X5_67 rfl (by decide) rfl (Nat.le_of_ble_eq_true rfl) dX5_strike_11 (fun r h => co_X5_isWithin h) (fun r2 => ?_)
    refine mv_if_ne 23 dX5_strike_14 (by decide) ?_ ?_
    · refine mv_aload_n 0 dX5_strike_23 rfl rfl ?_
      refine mv_iload_n 2 dX5_strike_24 rfl rfl ?_
      refine mv_cVwv (As := [.int a2]) (st := []) cal_X5_foreseeUps ins_X5_foreseeUps ml_X5_158 rfl (by decide) rfl rfl (by decide) rfl (Nat.le_of_ble_eq_true rfl) dX5_strike_25 (fun r s h => co_X5_foreseeUps h) (fun r3 s4 => ?_)
      refine mv_iconst (v := 0) dX5_strike_28 ic_0 ?_
      refine mv_istore_n (lv' := [(0, .ref (mt_adr (kG K) 0)), (1, .int a1), (2, .int a2), (3, .int (0 : Int32))]) [1, 2, 3, 0] dX5_strike_29 rfl (by decide) rfl ?_
      refine mv_iconst (v := 0) dX5_strike_30 ic_0 ?_
      refine mv_istore (lv' := [(0, .ref (mt_adr (kG K) 0)), (1, .int a1), (2, .int a2), (3, .int (0 : Int32)), (4, .int (0 : Int32))]) [1, 2, 3, 4, 0] dX5_strike_31 (by decide) rfl ?_
      exact vX5_strike_33 hQ fu s4 a1 a2 (0 : Int32) (0 : Int32)
    · refine mv_sub (lv' := [(0, .ref (mt_adr (kG K) 0))]) [0] rfl ?_
      exact vX5_strike_17 hQ σ
theorem co_X5_strike {l : Launch} {G : mt_G} {fu : Nat} {σ : mt_St} {a1 : Int32} {a2 : Int32} {r : Int32} {σf : mt_St}  (h : fX5_strike fu σ a1 a2 = some (r, σf)) : mt_Con l G yX5_strike cX5_strike 5 (some .int) 5 [.ref (mt_adr G 0), .int a1, .int a2] σ (some (.int r)) σf :=
  mt_con (by decide) (Nat.le_of_ble_eq_true rfl) (fun K hl hG hQ => by subst hl; subst hG; exact fun _ => vX5_strike  hQ h)
theorem dX5_foreseeStrains_0 : decode cX5_foreseeStrains 0 = .ok (.aload_n 0, 1) := by decide +kernel
theorem dX5_foreseeStrains_1 : decode cX5_foreseeStrains 1 = .ok (.getfield 40, 3) := by decide +kernel
theorem dX5_foreseeStrains_4 : decode cX5_foreseeStrains 4 = .ok (.iconst 0, 1) := by decide +kernel
theorem dX5_foreseeStrains_5 : decode cX5_foreseeStrains 5 = .ok (.putfield 311, 3) := by decide +kernel
theorem dX5_foreseeStrains_8 : decode cX5_foreseeStrains 8 = .ok (.aload_n 0, 1) := by decide +kernel
theorem dX5_foreseeStrains_9 : decode cX5_foreseeStrains 9 = .ok (.iload_n 1, 1) := by decide +kernel
theorem dX5_foreseeStrains_10 : decode cX5_foreseeStrains 10 = .ok (.invokevirtual 158, 3) := by decide +kernel
theorem dX5_foreseeStrains_13 : decode cX5_foreseeStrains 13 = .ok (.iconst 0, 1) := by decide +kernel
theorem dX5_foreseeStrains_14 : decode cX5_foreseeStrains 14 = .ok (.istore_n 2, 1) := by decide +kernel
theorem dX5_foreseeStrains_15 : decode cX5_foreseeStrains 15 = .ok (.iload_n 2, 1) := by decide +kernel
theorem dX5_foreseeStrains_16 : decode cX5_foreseeStrains 16 = .ok (.aload_n 0, 1) := by decide +kernel
theorem dX5_foreseeStrains_17 : decode cX5_foreseeStrains 17 = .ok (.getfield 10, 3) := by decide +kernel
theorem dX5_foreseeStrains_20 : decode cX5_foreseeStrains 20 = .ok (.getfield 91, 3) := by decide +kernel
theorem dX5_foreseeStrains_23 : decode cX5_foreseeStrains 23 = .ok (.if_icmp .ge 60, 3) := by decide +kernel
theorem dX5_foreseeStrains_26 : decode cX5_foreseeStrains 26 = .ok (.aload_n 0, 1) := by decide +kernel
theorem dX5_foreseeStrains_27 : decode cX5_foreseeStrains 27 = .ok (.iload_n 2, 1) := by decide +kernel
theorem dX5_foreseeStrains_28 : decode cX5_foreseeStrains 28 = .ok (.invokevirtual 161, 3) := by decide +kernel
theorem dX5_foreseeStrains_31 : decode cX5_foreseeStrains 31 = .ok (.iconst 0, 1) := by decide +kernel
theorem dX5_foreseeStrains_32 : decode cX5_foreseeStrains 32 = .ok (.istore_n 3, 1) := by decide +kernel
theorem dX5_foreseeStrains_33 : decode cX5_foreseeStrains 33 = .ok (.iload_n 3, 1) := by decide +kernel
theorem dX5_foreseeStrains_34 : decode cX5_foreseeStrains 34 = .ok (.iload_n 1, 1) := by decide +kernel
theorem dX5_foreseeStrains_35 : decode cX5_foreseeStrains 35 = .ok (.if_icmp .ge 42, 3) := by decide +kernel
theorem dX5_foreseeStrains_38 : decode cX5_foreseeStrains 38 = .ok (.aload_n 0, 1) := by decide +kernel
theorem dX5_foreseeStrains_39 : decode cX5_foreseeStrains 39 = .ok (.getfield 40, 3) := by decide +kernel
theorem dX5_foreseeStrains_42 : decode cX5_foreseeStrains 42 = .ok (.aload_n 0, 1) := by decide +kernel
theorem dX5_foreseeStrains_43 : decode cX5_foreseeStrains 43 = .ok (.getfield 29, 3) := by decide +kernel
theorem dX5_foreseeStrains_46 : decode cX5_foreseeStrains 46 = .ok (.aload_n 0, 1) := by decide +kernel
theorem dX5_foreseeStrains_47 : decode cX5_foreseeStrains 47 = .ok (.getfield 33, 3) := by decide +kernel
theorem dX5_foreseeStrains_50 : decode cX5_foreseeStrains 50 = .ok (.iload_n 3, 1) := by decide +kernel
theorem dX5_foreseeStrains_51 : decode cX5_foreseeStrains 51 = .ok (.iaload, 1) := by decide +kernel
theorem dX5_foreseeStrains_52 : decode cX5_foreseeStrains 52 = .ok (.invokevirtual 312, 3) := by decide +kernel
theorem dX5_foreseeStrains_55 : decode cX5_foreseeStrains 55 = .ok (.aload_n 0, 1) := by decide +kernel
theorem dX5_foreseeStrains_56 : decode cX5_foreseeStrains 56 = .ok (.getfield 29, 3) := by decide +kernel
theorem dX5_foreseeStrains_59 : decode cX5_foreseeStrains 59 = .ok (.iconst 0, 1) := by decide +kernel
theorem dX5_foreseeStrains_60 : decode cX5_foreseeStrains 60 = .ok (.aload_n 0, 1) := by decide +kernel
theorem dX5_foreseeStrains_61 : decode cX5_foreseeStrains 61 = .ok (.getfield 10, 3) := by decide +kernel
theorem dX5_foreseeStrains_64 : decode cX5_foreseeStrains 64 = .ok (.getfield 78, 3) := by decide +kernel
theorem dX5_foreseeStrains_67 : decode cX5_foreseeStrains 67 = .ok (.invokevirtual 175, 3) := by decide +kernel
theorem dX5_foreseeStrains_70 : decode cX5_foreseeStrains 70 = .ok (.pop, 1) := by decide +kernel
theorem dX5_foreseeStrains_71 : decode cX5_foreseeStrains 71 = .ok (.iinc 3 1, 3) := by decide +kernel
theorem dX5_foreseeStrains_74 : decode cX5_foreseeStrains 74 = .ok (.goto (-41), 3) := by decide +kernel
theorem dX5_foreseeStrains_77 : decode cX5_foreseeStrains 77 = .ok (.iinc 2 1, 3) := by decide +kernel
theorem dX5_foreseeStrains_80 : decode cX5_foreseeStrains 80 = .ok (.goto (-65), 3) := by decide +kernel
theorem dX5_foreseeStrains_83 : decode cX5_foreseeStrains 83 = .ok (.return_, 1) := by decide +kernel
def bX5_foreseeStrains_33 (fu : Nat) (k15 : mt_St → Int32 → Int32 → Option (Unit × mt_St)) : Nat → mt_St → Int32 → Int32 → Int32 → Option (Unit × mt_St)
  | 0, _, _, _, _ => none
  | n + 1, σ, x1, x2, x3 =>
    if x1 ≤ x3 then
      k15 σ x1 (x2 + 1)
    else
      mt_chk (mt_in x3 200) <|
      mt_call (fX2_addOf fu σ 37 (σ 38 (Int32.toNatClampNeg x3))) fun _ s2 =>
      mt_call (fX3_live fu s2 37 (0 : Int32) (s2 1 0)) fun r3 s4 =>
      bX5_foreseeStrains_33 fu k15 n s4 x1 x2 (x3 + 1)
set_option maxHeartbeats 4000000 in
set_option maxRecDepth 20000 in
theorem vX5_foreseeStrains_33 {K : mt_C} {fu : Nat} {r : Unit} {σf : mt_St} (hQ : mt_R K none none σf) {k15 : mt_St → Int32 → Int32 → Option (Unit × mt_St)} (hk15 : ∀ (s0 : mt_St) (x1 : Int32) (x2 : Int32), mt_V K cX5_foreseeStrains RX5 4 4 s0 15 [(0, .ref (mt_adr (kG K) 0)), (1, .int x1), (2, .int x2)] [] (k15 s0 x1 x2 = some (r, σf))) : ∀ (n : Nat) (σ : mt_St) (x1 : Int32) (x2 : Int32) (x3 : Int32), mt_V K cX5_foreseeStrains RX5 4 4 σ 33 [(0, .ref (mt_adr (kG K) 0)), (1, .int x1), (2, .int x2), (3, .int x3)] [] (bX5_foreseeStrains_33 fu k15 n σ x1 x2 x3 = some (r, σf)) := by
  intro n
  induction n with
  | zero => intro σ x1 x2 x3; intro hP; unfold bX5_foreseeStrains_33 at hP; cases hP
  | succ n ih =>
    intro σ x1 x2 x3
    unfold bX5_foreseeStrains_33
    refine mv_iload_n 3 dX5_foreseeStrains_33 rfl rfl ?_
    refine mv_iload_n 1 dX5_foreseeStrains_34 rfl rfl ?_
    refine mv_icmp_ge 77 dX5_foreseeStrains_35 (by decide) ?_ ?_
    · refine mv_iinc (k0 := 2) (v := x2 + 1) (lv' := [(0, .ref (mt_adr (kG K) 0)), (1, .int x1), (2, .int (x2 + 1))]) [1, 2, 0] dX5_foreseeStrains_77 rfl (mt_inc ic_1) (by decide) rfl ?_
      refine mv_goto 15 dX5_foreseeStrains_80 (by decide) ?_
      exact hk15 σ x1 (x2 + 1)
    · refine mv_aload_n 0 dX5_foreseeStrains_38 rfl rfl ?_
      refine mg_X5_6 fl_X5_40 dX5_foreseeStrains_39 ?_
      refine mv_aload_n 0 dX5_foreseeStrains_42 rfl rfl ?_
      refine mg_X5_4 fl_X5_29 dX5_foreseeStrains_43 ?_
      refine mv_aload_n 0 dX5_foreseeStrains_46 rfl rfl ?_
      refine mg_X5_5 fl_X5_33 dX5_foreseeStrains_47 ?_
      refine mv_iload_n 3 dX5_foreseeStrains_50 rfl rfl ?_
      refine mv_iald 200 rfl rfl dX5_foreseeStrains_51 ?_
      refine mv_cVwv (As := [.ref (mt_adr (kG K) 37), .int (σ 38 (Int32.toNatClampNeg x3))]) (st := []) cal_X2_addOf ins_X2_addOf ml_X5_312 rfl (by decide) rfl rfl (by decide) rfl (Nat.le_of_ble_eq_true rfl) dX5_foreseeStrains_52 (fun r s h => co_X2_addOf rfl h) (fun r1 s2 => ?_)
      refine mv_aload_n 0 dX5_foreseeStrains_55 rfl rfl ?_
      refine mg_X5_4 fl_X5_29 dX5_foreseeStrains_56 ?_
      refine mv_iconst (v := 0) dX5_foreseeStrains_59 ic_0 ?_
      refine mv_aload_n 0 dX5_foreseeStrains_60 rfl rfl ?_
      refine mg_X5_0 fl_X5_10 dX5_foreseeStrains_61 ?_
      refine mg_X4_0 rfl fl_X5_78 dX5_foreseeStrains_64 ?_
      refine mv_cVwi (As := [.int (0 : Int32), .int (s2 1 0)]) (st := []) cal_X3_live ins_X3_live ml_X5_175 rfl (by decide) rfl rfl (by decide) rfl (Nat.le_of_ble_eq_true rfl) dX5_foreseeStrains_67 (fun r s h => co_X3_live rfl h) (fun r3 s4 => ?_)
      refine mv_pop dX5_foreseeStrains_70 rfl ?_
      refine mv_iinc (k0 := 3) (v := x3 + 1) (lv' := [(0, .ref (mt_adr (kG K) 0)), (1, .int x1), (2, .int x2), (3, .int (x3 + 1))]) [1, 2, 3, 0] dX5_foreseeStrains_71 rfl (mt_inc ic_1) (by decide) rfl ?_
      refine mv_goto 33 dX5_foreseeStrains_74 (by decide) ?_
      exact ih s4 x1 x2 (x3 + 1)
def bX5_foreseeStrains_15 (fu : Nat) : Nat → mt_St → Int32 → Int32 → Option (Unit × mt_St)
  | 0, _, _, _ => none
  | n + 1, σ, x1, x2 =>
    if (σ 1 7) ≤ x2 then
      some ((), σ)
    else
      mt_call (fX5_tryAlone fu σ x2) fun _ s2 =>
      bX5_foreseeStrains_33 fu (fun s0 x1 x2 => bX5_foreseeStrains_15 fu n s0 x1 x2) fu s2 x1 x2 (0 : Int32)
set_option maxHeartbeats 4000000 in
set_option maxRecDepth 20000 in
theorem vX5_foreseeStrains_15 {K : mt_C} {fu : Nat} {r : Unit} {σf : mt_St} (hQ : mt_R K none none σf) : ∀ (n : Nat) (σ : mt_St) (x1 : Int32) (x2 : Int32), mt_V K cX5_foreseeStrains RX5 4 4 σ 15 [(0, .ref (mt_adr (kG K) 0)), (1, .int x1), (2, .int x2)] [] (bX5_foreseeStrains_15 fu n σ x1 x2 = some (r, σf)) := by
  intro n
  induction n with
  | zero => intro σ x1 x2; intro hP; unfold bX5_foreseeStrains_15 at hP; cases hP
  | succ n ih =>
    intro σ x1 x2
    unfold bX5_foreseeStrains_15
    refine mv_iload_n 2 dX5_foreseeStrains_15 rfl rfl ?_
    refine mv_aload_n 0 dX5_foreseeStrains_16 rfl rfl ?_
    refine mg_X5_0 fl_X5_10 dX5_foreseeStrains_17 ?_
    refine mg_X4_7 rfl fl_X5_91 dX5_foreseeStrains_20 ?_
    refine mv_icmp_ge 83 dX5_foreseeStrains_23 (by decide) ?_ ?_
    · exact mv_vret hQ dX5_foreseeStrains_83
    · refine mv_aload_n 0 dX5_foreseeStrains_26 rfl rfl ?_
      refine mv_iload_n 2 dX5_foreseeStrains_27 rfl rfl ?_
      refine mv_cVwv (As := [.int x2]) (st := []) cal_X5_tryAlone ins_X5_tryAlone ml_X5_161 rfl (by decide) rfl rfl (by decide) rfl (Nat.le_of_ble_eq_true rfl) dX5_foreseeStrains_28 (fun r s h => co_X5_tryAlone h) (fun r1 s2 => ?_)
      refine mv_iconst (v := 0) dX5_foreseeStrains_31 ic_0 ?_
      refine mv_istore_n (lv' := [(0, .ref (mt_adr (kG K) 0)), (1, .int x1), (2, .int x2), (3, .int (0 : Int32))]) [1, 2, 3, 0] dX5_foreseeStrains_32 rfl (by decide) rfl ?_
      exact vX5_foreseeStrains_33 hQ (fun s0 x1 x2 => ih s0 x1 x2) fu s2 x1 x2 (0 : Int32)
def fX5_foreseeStrains (fu : Nat) (σ : mt_St) (a1 : Int32) : Option (Unit × mt_St) :=
  mt_bnd (mt_up σ 39 2 (0 : Int32)) fun s1 =>
  mt_call (fX5_foreseeUps fu s1 a1) fun _ s3 =>
  bX5_foreseeStrains_15 fu fu s3 a1 (0 : Int32)
set_option maxHeartbeats 4000000 in
set_option maxRecDepth 20000 in
theorem vX5_foreseeStrains {K : mt_C} {fu : Nat} {σ : mt_St} {a1 : Int32} {r : Unit} {σf : mt_St} (hQ : mt_R K none none σf) : mt_V K cX5_foreseeStrains RX5 4 4 σ 0 [(0, .ref (mt_adr (kG K) 0)), (1, .int a1)] [] (fX5_foreseeStrains fu σ a1 = some (r, σf)) := by
  unfold fX5_foreseeStrains
  refine mv_aload_n 0 dX5_foreseeStrains_0 rfl rfl ?_
  refine mg_X5_6 fl_X5_40 dX5_foreseeStrains_1 ?_
  refine mv_iconst (v := 0) dX5_foreseeStrains_4 ic_0 ?_
  refine mp_X2_2 fl_X5_311 dX5_foreseeStrains_5 (fun s1 => ?_)
  refine mv_aload_n 0 dX5_foreseeStrains_8 rfl rfl ?_
  refine mv_iload_n 1 dX5_foreseeStrains_9 rfl rfl ?_
  refine mv_cVwv (As := [.int a1]) (st := []) cal_X5_foreseeUps ins_X5_foreseeUps ml_X5_158 rfl (by decide) rfl rfl (by decide) rfl (Nat.le_of_ble_eq_true rfl) dX5_foreseeStrains_10 (fun r s h => co_X5_foreseeUps h) (fun r2 s3 => ?_)
  refine mv_iconst (v := 0) dX5_foreseeStrains_13 ic_0 ?_
  refine mv_istore_n (lv' := [(0, .ref (mt_adr (kG K) 0)), (1, .int a1), (2, .int (0 : Int32))]) [1, 2, 0] dX5_foreseeStrains_14 rfl (by decide) rfl ?_
  exact vX5_foreseeStrains_15 hQ fu s3 a1 (0 : Int32)
theorem co_X5_foreseeStrains {l : Launch} {G : mt_G} {fu : Nat} {σ : mt_St} {a1 : Int32} {r : Unit} {σf : mt_St}  (h : fX5_foreseeStrains fu σ a1 = some (r, σf)) : mt_Con l G yX5_foreseeStrains cX5_foreseeStrains 4 none 4 [.ref (mt_adr G 0), .int a1] σ none σf :=
  mt_con (by decide) (Nat.le_of_ble_eq_true rfl) (fun K hl hG hQ => by subst hl; subst hG; exact fun _ => vX5_foreseeStrains  hQ h)
theorem dX5_lull_0 : decode cX5_lull 0 = .ok (.iload_n 1, 1) := by decide +kernel
theorem dX5_lull_1 : decode cX5_lull 1 = .ok (.bipush 12, 2) := by decide +kernel
theorem dX5_lull_3 : decode cX5_lull 3 = .ok (.invokestatic 67, 3) := by decide +kernel
theorem dX5_lull_6 : decode cX5_lull 6 = .ok (.ifCond .ne 9, 3) := by decide +kernel
theorem dX5_lull_9 : decode cX5_lull 9 = .ok (.aload_n 0, 1) := by decide +kernel
theorem dX5_lull_10 : decode cX5_lull 10 = .ok (.iconst 0, 1) := by decide +kernel
theorem dX5_lull_11 : decode cX5_lull 11 = .ok (.invokevirtual 71, 3) := by decide +kernel
theorem dX5_lull_14 : decode cX5_lull 14 = .ok (.ireturn, 1) := by decide +kernel
theorem dX5_lull_15 : decode cX5_lull 15 = .ok (.aload_n 0, 1) := by decide +kernel
theorem dX5_lull_16 : decode cX5_lull 16 = .ok (.iload_n 1, 1) := by decide +kernel
theorem dX5_lull_17 : decode cX5_lull 17 = .ok (.invokevirtual 193, 3) := by decide +kernel
theorem dX5_lull_20 : decode cX5_lull 20 = .ok (.iconst (-1), 1) := by decide +kernel
theorem dX5_lull_21 : decode cX5_lull 21 = .ok (.istore_n 2, 1) := by decide +kernel
theorem dX5_lull_22 : decode cX5_lull 22 = .ok (.bipush 13, 2) := by decide +kernel
theorem dX5_lull_24 : decode cX5_lull 24 = .ok (.istore_n 3, 1) := by decide +kernel
theorem dX5_lull_25 : decode cX5_lull 25 = .ok (.iconst 0, 1) := by decide +kernel
theorem dX5_lull_26 : decode cX5_lull 26 = .ok (.istore 4, 2) := by decide +kernel
theorem dX5_lull_28 : decode cX5_lull 28 = .ok (.iload 4, 2) := by decide +kernel
theorem dX5_lull_30 : decode cX5_lull 30 = .ok (.sipush 4095, 3) := by decide +kernel
theorem dX5_lull_33 : decode cX5_lull 33 = .ok (.if_icmp .gt 40, 3) := by decide +kernel
theorem dX5_lull_36 : decode cX5_lull 36 = .ok (.iload 4, 2) := by decide +kernel
theorem dX5_lull_38 : decode cX5_lull 38 = .ok (.invokestatic 196, 3) := by decide +kernel
theorem dX5_lull_41 : decode cX5_lull 41 = .ok (.istore 5, 2) := by decide +kernel
theorem dX5_lull_43 : decode cX5_lull 43 = .ok (.iload 5, 2) := by decide +kernel
theorem dX5_lull_45 : decode cX5_lull 45 = .ok (.iload_n 3, 1) := by decide +kernel
theorem dX5_lull_46 : decode cX5_lull 46 = .ok (.if_icmp .ge 21, 3) := by decide +kernel
theorem dX5_lull_49 : decode cX5_lull 49 = .ok (.aload_n 0, 1) := by decide +kernel
theorem dX5_lull_50 : decode cX5_lull 50 = .ok (.getfield 40, 3) := by decide +kernel
theorem dX5_lull_53 : decode cX5_lull 53 = .ok (.iload 4, 2) := by decide +kernel
theorem dX5_lull_55 : decode cX5_lull 55 = .ok (.invokevirtual 200, 3) := by decide +kernel
theorem dX5_lull_58 : decode cX5_lull 58 = .ok (.ifCond .eq 9, 3) := by decide +kernel
theorem dX5_lull_61 : decode cX5_lull 61 = .ok (.iload 5, 2) := by decide +kernel
theorem dX5_lull_63 : decode cX5_lull 63 = .ok (.istore_n 3, 1) := by decide +kernel
theorem dX5_lull_64 : decode cX5_lull 64 = .ok (.iload 4, 2) := by decide +kernel
theorem dX5_lull_66 : decode cX5_lull 66 = .ok (.istore_n 2, 1) := by decide +kernel
theorem dX5_lull_67 : decode cX5_lull 67 = .ok (.iinc 4 1, 3) := by decide +kernel
theorem dX5_lull_70 : decode cX5_lull 70 = .ok (.goto (-42), 3) := by decide +kernel
theorem dX5_lull_73 : decode cX5_lull 73 = .ok (.iload_n 2, 1) := by decide +kernel
theorem dX5_lull_74 : decode cX5_lull 74 = .ok (.ifCond .ge 11, 3) := by decide +kernel
theorem dX5_lull_77 : decode cX5_lull 77 = .ok (.aload_n 0, 1) := by decide +kernel
theorem dX5_lull_78 : decode cX5_lull 78 = .ok (.iconst 3, 1) := by decide +kernel
theorem dX5_lull_79 : decode cX5_lull 79 = .ok (.invokevirtual 71, 3) := by decide +kernel
theorem dX5_lull_82 : decode cX5_lull 82 = .ok (.goto 4, 3) := by decide +kernel
theorem dX5_lull_85 : decode cX5_lull 85 = .ok (.iload_n 2, 1) := by decide +kernel
theorem dX5_lull_86 : decode cX5_lull 86 = .ok (.ireturn, 1) := by decide +kernel
def bX5_lull_86 (fu : Nat) (σ : mt_St) (y0 : Int32) : Option (Int32 × mt_St) :=
  some (y0, σ)
set_option maxHeartbeats 4000000 in
set_option maxRecDepth 20000 in
theorem vX5_lull_86 {K : mt_C} {fu : Nat} {r : Int32} {σf : mt_St} (hQ : mt_R K (some .int) (some (.int r)) σf) : ∀ (σ : mt_St) (y0 : Int32), mt_V K cX5_lull RX5 6 5 σ 86 [] [.int y0] (bX5_lull_86 fu σ y0 = some (r, σf)) := by
  intro σ y0
  unfold bX5_lull_86
  exact mv_iret hQ dX5_lull_86
def bX5_lull_67 (fu : Nat) (k28 : mt_St → Int32 → Int32 → Int32 → Option (Int32 × mt_St)) (σ : mt_St) (x2 : Int32) (x3 : Int32) (x4 : Int32) : Option (Int32 × mt_St) :=
  k28 σ x2 x3 (x4 + 1)
set_option maxHeartbeats 4000000 in
set_option maxRecDepth 20000 in
theorem vX5_lull_67 {K : mt_C} {fu : Nat} {r : Int32} {σf : mt_St} (hQ : mt_R K (some .int) (some (.int r)) σf) {k28 : mt_St → Int32 → Int32 → Int32 → Option (Int32 × mt_St)} (hk28 : ∀ (s0 : mt_St) (x2 : Int32) (x3 : Int32) (x4 : Int32), mt_V K cX5_lull RX5 6 5 s0 28 [(0, .ref (mt_adr (kG K) 0)), (2, .int x2), (3, .int x3), (4, .int x4)] [] (k28 s0 x2 x3 x4 = some (r, σf))) : ∀ (σ : mt_St) (x2 : Int32) (x3 : Int32) (x4 : Int32), mt_V K cX5_lull RX5 6 5 σ 67 [(0, .ref (mt_adr (kG K) 0)), (2, .int x2), (3, .int x3), (4, .int x4)] [] (bX5_lull_67 fu k28 σ x2 x3 x4 = some (r, σf)) := by
  intro σ x2 x3 x4
  unfold bX5_lull_67
  refine mv_iinc (k0 := 3) (v := x4 + 1) (lv' := [(0, .ref (mt_adr (kG K) 0)), (2, .int x2), (3, .int x3), (4, .int (x4 + 1))]) [1, 2, 3, 0] dX5_lull_67 rfl (mt_inc ic_1) (by decide) rfl ?_
  refine mv_goto 28 dX5_lull_70 (by decide) ?_
  exact hk28 σ x2 x3 (x4 + 1)
def bX5_lull_28 (fu : Nat) : Nat → mt_St → Int32 → Int32 → Int32 → Option (Int32 × mt_St)
  | 0, _, _, _, _ => none
  | n + 1, σ, x2, x3, x4 =>
    if (4095 : Int32) < x4 then
      if 0 ≤ x2 then
        bX5_lull_86 fu σ x2
      else
        mt_call (fX5_finding fu σ (3 : Int32)) fun r1 s2 =>
        bX5_lull_86 fu s2 r1
    else
      mt_ask (fJ6_bitCount_0f7a4 fu x4) fun r3 =>
      if x3 ≤ r3 then
        bX5_lull_67 fu (fun s0 x2 x3 x4 => bX5_lull_28 fu n s0 x2 x3 x4) σ x2 x3 x4
      else
        mt_ask (fX2_areEasedBy fu σ x4) fun r4 =>
        if r4 = 0 then
          bX5_lull_67 fu (fun s0 x2 x3 x4 => bX5_lull_28 fu n s0 x2 x3 x4) σ x2 x3 x4
        else
          bX5_lull_67 fu (fun s0 x2 x3 x4 => bX5_lull_28 fu n s0 x2 x3 x4) σ x4 r3 x4
set_option maxHeartbeats 4000000 in
set_option maxRecDepth 20000 in
theorem vX5_lull_28 {K : mt_C} {fu : Nat} {r : Int32} {σf : mt_St} (hQ : mt_R K (some .int) (some (.int r)) σf) : ∀ (n : Nat) (σ : mt_St) (x2 : Int32) (x3 : Int32) (x4 : Int32), mt_V K cX5_lull RX5 6 5 σ 28 [(0, .ref (mt_adr (kG K) 0)), (2, .int x2), (3, .int x3), (4, .int x4)] [] (bX5_lull_28 fu n σ x2 x3 x4 = some (r, σf)) := by
  intro n
  induction n with
  | zero => intro σ x2 x3 x4; intro hP; unfold bX5_lull_28 at hP; cases hP
  | succ n ih =>
    intro σ x2 x3 x4
    unfold bX5_lull_28
    refine mv_iload 3 dX5_lull_28 rfl ?_
    refine mv_sipush (v := 4095) dX5_lull_30 sp_4095 ?_
    refine mv_icmp_gt 73 dX5_lull_33 (by decide) ?_ ?_
    · refine mv_iload_n 1 dX5_lull_73 rfl rfl ?_
      refine mv_if_ge 85 dX5_lull_74 (by decide) ?_ ?_
      · refine mv_iload_n 1 dX5_lull_85 rfl rfl ?_
        refine mv_sub (lv' := []) [] rfl ?_
        exact vX5_lull_86 hQ σ x2
      · refine mv_aload_n 0 dX5_lull_77 rfl rfl ?_
        refine mv_iconst (v := 3) dX5_lull_78 ic_3 ?_
        refine mv_cVwi (As := [.int (3 : Int32)]) (st := []) cal_X5_finding ins_X5_finding ml_X5_71 rfl (by decide) rfl rfl (by decide) rfl (Nat.le_of_ble_eq_true rfl) dX5_lull_79 (fun r s h => co_X5_finding h) (fun r1 s2 => ?_)
        refine mv_goto 86 dX5_lull_82 (by decide) ?_
        refine mv_sub (lv' := []) [] rfl ?_
        exact vX5_lull_86 hQ s2 r1
    · refine mv_iload 3 dX5_lull_36 rfl ?_
      refine mv_cSri (As := [.int x4]) (st := []) cal_J6_bitCount_0f7a4 sta_J6_bitCount_0f7a4 ml_X5_196 rfl (by decide) rfl (Nat.le_of_ble_eq_true rfl) dX5_lull_38 (fun r h => co_J6_bitCount_0f7a4 h) (fun r3 => ?_)
      refine mv_istore (lv' := [(0, .ref (mt_adr (kG K) 0)), (2, .int x2), (3, .int x3), (4, .int x4), (5, .int r3)]) [1, 2, 3, 4, 0] dX5_lull_41 (by decide) rfl ?_
      refine mv_iload 4 dX5_lull_43 rfl ?_
      refine mv_iload_n 2 dX5_lull_45 rfl rfl ?_
      refine mv_icmp_ge 67 dX5_lull_46 (by decide) ?_ ?_
      · refine mv_sub (lv' := [(0, .ref (mt_adr (kG K) 0)), (2, .int x2), (3, .int x3), (4, .int x4)]) [0, 1, 2, 3] rfl ?_
        exact vX5_lull_67 hQ (fun s0 x2 x3 x4 => ih s0 x2 x3 x4) σ x2 x3 x4
      · refine mv_aload_n 0 dX5_lull_49 rfl rfl ?_
        refine mg_X5_6 fl_X5_40 dX5_lull_50 ?_
        refine mv_iload 3 dX5_lull_53 rfl ?_
        refine mv_cVri (As := [.int x4]) (st := []) cal_X2_areEasedBy ins_X2_areEasedBy ml_X5_200 rfl (by decide) rfl rfl (by decide) rfl (Nat.le_of_ble_eq_true rfl) dX5_lull_55 (fun r h => co_X2_areEasedBy h) (fun r4 => ?_)
        refine mv_if_eq 67 dX5_lull_58 (by decide) ?_ ?_
        · refine mv_sub (lv' := [(0, .ref (mt_adr (kG K) 0)), (2, .int x2), (3, .int x3), (4, .int x4)]) [0, 1, 2, 3] rfl ?_
          exact vX5_lull_67 hQ (fun s0 x2 x3 x4 => ih s0 x2 x3 x4) σ x2 x3 x4
        · refine mv_iload 4 dX5_lull_61 rfl ?_
          refine mv_istore_n (lv' := [(0, .ref (mt_adr (kG K) 0)), (3, .int r3), (4, .int x4)]) [1, 0, 3] dX5_lull_63 rfl (by decide) rfl ?_
          refine mv_iload 2 dX5_lull_64 rfl ?_
          refine mv_istore_n (lv' := [(0, .ref (mt_adr (kG K) 0)), (2, .int x4), (3, .int r3), (4, .int x4)]) [1, 0, 2, 3] dX5_lull_66 rfl (by decide) rfl ?_
          exact vX5_lull_67 hQ (fun s0 x2 x3 x4 => ih s0 x2 x3 x4) σ x4 r3 x4
def fX5_lull (fu : Nat) (σ : mt_St) (a1 : Int32) : Option (Int32 × mt_St) :=
  mt_ask (fX5_isWithin fu a1 (12 : Int32)) fun r1 =>
  if r1 = 0 then
    mt_call (fX5_finding fu σ (0 : Int32)) fun r4 s5 =>
    some (r4, s5)
  else
    mt_call (fX5_foreseeStrains fu σ a1) fun _ s3 =>
    bX5_lull_28 fu fu s3 (-1 : Int32) (13 : Int32) (0 : Int32)
set_option maxHeartbeats 4000000 in
set_option maxRecDepth 20000 in
theorem vX5_lull {K : mt_C} {fu : Nat} {σ : mt_St} {a1 : Int32} {r : Int32} {σf : mt_St} (hQ : mt_R K (some .int) (some (.int r)) σf) : mt_V K cX5_lull RX5 6 5 σ 0 [(0, .ref (mt_adr (kG K) 0)), (1, .int a1)] [] (fX5_lull fu σ a1 = some (r, σf)) := by
  unfold fX5_lull
  refine mv_iload_n 1 dX5_lull_0 rfl rfl ?_
  refine mv_bipush (v := 12) dX5_lull_1 bp_12 ?_
  refine mv_cSri (As := [.int a1, .int (12 : Int32)]) (st := []) cal_X5_isWithin sta_X5_isWithin ml_X5_67 rfl (by decide) rfl (Nat.le_of_ble_eq_true rfl) dX5_lull_3 (fun r h => co_X5_isWithin h) (fun r1 => ?_)
  refine mv_if_ne 15 dX5_lull_6 (by decide) ?_ ?_
  · refine mv_aload_n 0 dX5_lull_15 rfl rfl ?_
    refine mv_iload_n 1 dX5_lull_16 rfl rfl ?_
    refine mv_cVwv (As := [.int a1]) (st := []) cal_X5_foreseeStrains ins_X5_foreseeStrains ml_X5_193 rfl (by decide) rfl rfl (by decide) rfl (Nat.le_of_ble_eq_true rfl) dX5_lull_17 (fun r s h => co_X5_foreseeStrains h) (fun r2 s3 => ?_)
    refine mv_iconst (v := -1) dX5_lull_20 ic_m1 ?_
    refine mv_istore_n (lv' := [(0, .ref (mt_adr (kG K) 0)), (2, .int (-1 : Int32))]) [1, 0] dX5_lull_21 rfl (by decide) rfl ?_
    refine mv_bipush (v := 13) dX5_lull_22 bp_13 ?_
    refine mv_istore_n (lv' := [(0, .ref (mt_adr (kG K) 0)), (2, .int (-1 : Int32)), (3, .int (13 : Int32))]) [1, 2, 0] dX5_lull_24 rfl (by decide) rfl ?_
    refine mv_iconst (v := 0) dX5_lull_25 ic_0 ?_
    refine mv_istore (lv' := [(0, .ref (mt_adr (kG K) 0)), (2, .int (-1 : Int32)), (3, .int (13 : Int32)), (4, .int (0 : Int32))]) [1, 2, 3, 0] dX5_lull_26 (by decide) rfl ?_
    exact vX5_lull_28 hQ fu s3 (-1 : Int32) (13 : Int32) (0 : Int32)
  · refine mv_aload_n 0 dX5_lull_9 rfl rfl ?_
    refine mv_iconst (v := 0) dX5_lull_10 ic_0 ?_
    refine mv_cVwi (As := [.int (0 : Int32)]) (st := []) cal_X5_finding ins_X5_finding ml_X5_71 rfl (by decide) rfl rfl (by decide) rfl (Nat.le_of_ble_eq_true rfl) dX5_lull_11 (fun r s h => co_X5_finding h) (fun r4 s5 => ?_)
    exact mv_iret hQ dX5_lull_14
theorem co_X5_lull {l : Launch} {G : mt_G} {fu : Nat} {σ : mt_St} {a1 : Int32} {r : Int32} {σf : mt_St}  (h : fX5_lull fu σ a1 = some (r, σf)) : mt_Con l G yX5_lull cX5_lull 6 (some .int) 5 [.ref (mt_adr G 0), .int a1] σ (some (.int r)) σf :=
  mt_con (by decide) (Nat.le_of_ble_eq_true rfl) (fun K hl hG hQ => by subst hl; subst hG; exact fun _ => vX5_lull  hQ h)
theorem dX5_foreseeGains_0 : decode cX5_foreseeGains 0 = .ok (.aload_n 0, 1) := by decide +kernel
theorem dX5_foreseeGains_1 : decode cX5_foreseeGains 1 = .ok (.iload_n 1, 1) := by decide +kernel
theorem dX5_foreseeGains_2 : decode cX5_foreseeGains 2 = .ok (.invokevirtual 158, 3) := by decide +kernel
theorem dX5_foreseeGains_5 : decode cX5_foreseeGains 5 = .ok (.iconst 0, 1) := by decide +kernel
theorem dX5_foreseeGains_6 : decode cX5_foreseeGains 6 = .ok (.istore_n 2, 1) := by decide +kernel
theorem dX5_foreseeGains_7 : decode cX5_foreseeGains 7 = .ok (.iload_n 2, 1) := by decide +kernel
theorem dX5_foreseeGains_8 : decode cX5_foreseeGains 8 = .ok (.aload_n 0, 1) := by decide +kernel
theorem dX5_foreseeGains_9 : decode cX5_foreseeGains 9 = .ok (.getfield 10, 3) := by decide +kernel
theorem dX5_foreseeGains_12 : decode cX5_foreseeGains 12 = .ok (.getfield 91, 3) := by decide +kernel
theorem dX5_foreseeGains_15 : decode cX5_foreseeGains 15 = .ok (.if_icmp .ge 85, 3) := by decide +kernel
theorem dX5_foreseeGains_18 : decode cX5_foreseeGains 18 = .ok (.aload_n 0, 1) := by decide +kernel
theorem dX5_foreseeGains_19 : decode cX5_foreseeGains 19 = .ok (.iload_n 2, 1) := by decide +kernel
theorem dX5_foreseeGains_20 : decode cX5_foreseeGains 20 = .ok (.invokevirtual 161, 3) := by decide +kernel
theorem dX5_foreseeGains_23 : decode cX5_foreseeGains 23 = .ok (.aload_n 0, 1) := by decide +kernel
theorem dX5_foreseeGains_24 : decode cX5_foreseeGains 24 = .ok (.getfield 44, 3) := by decide +kernel
theorem dX5_foreseeGains_27 : decode cX5_foreseeGains 27 = .ok (.iload_n 2, 1) := by decide +kernel
theorem dX5_foreseeGains_28 : decode cX5_foreseeGains 28 = .ok (.aload_n 0, 1) := by decide +kernel
theorem dX5_foreseeGains_29 : decode cX5_foreseeGains 29 = .ok (.getfield 29, 3) := by decide +kernel
theorem dX5_foreseeGains_32 : decode cX5_foreseeGains 32 = .ok (.aload_n 0, 1) := by decide +kernel
theorem dX5_foreseeGains_33 : decode cX5_foreseeGains 33 = .ok (.getfield 33, 3) := by decide +kernel
theorem dX5_foreseeGains_36 : decode cX5_foreseeGains 36 = .ok (.iload_n 1, 1) := by decide +kernel
theorem dX5_foreseeGains_37 : decode cX5_foreseeGains 37 = .ok (.aload_n 0, 1) := by decide +kernel
theorem dX5_foreseeGains_38 : decode cX5_foreseeGains 38 = .ok (.getfield 10, 3) := by decide +kernel
theorem dX5_foreseeGains_41 : decode cX5_foreseeGains 41 = .ok (.getfield 78, 3) := by decide +kernel
theorem dX5_foreseeGains_44 : decode cX5_foreseeGains 44 = .ok (.invokevirtual 164, 3) := by decide +kernel
theorem dX5_foreseeGains_47 : decode cX5_foreseeGains 47 = .ok (.iastore, 1) := by decide +kernel
theorem dX5_foreseeGains_48 : decode cX5_foreseeGains 48 = .ok (.aload_n 0, 1) := by decide +kernel
theorem dX5_foreseeGains_49 : decode cX5_foreseeGains 49 = .ok (.iload_n 2, 1) := by decide +kernel
theorem dX5_foreseeGains_50 : decode cX5_foreseeGains 50 = .ok (.invokevirtual 161, 3) := by decide +kernel
theorem dX5_foreseeGains_53 : decode cX5_foreseeGains 53 = .ok (.aload_n 0, 1) := by decide +kernel
theorem dX5_foreseeGains_54 : decode cX5_foreseeGains 54 = .ok (.getfield 29, 3) := by decide +kernel
theorem dX5_foreseeGains_57 : decode cX5_foreseeGains 57 = .ok (.iconst 0, 1) := by decide +kernel
theorem dX5_foreseeGains_58 : decode cX5_foreseeGains 58 = .ok (.putfield 190, 3) := by decide +kernel
theorem dX5_foreseeGains_61 : decode cX5_foreseeGains 61 = .ok (.aload_n 0, 1) := by decide +kernel
theorem dX5_foreseeGains_62 : decode cX5_foreseeGains 62 = .ok (.getfield 29, 3) := by decide +kernel
theorem dX5_foreseeGains_65 : decode cX5_foreseeGains 65 = .ok (.iconst 0, 1) := by decide +kernel
theorem dX5_foreseeGains_66 : decode cX5_foreseeGains 66 = .ok (.putfield 316, 3) := by decide +kernel
theorem dX5_foreseeGains_69 : decode cX5_foreseeGains 69 = .ok (.aload_n 0, 1) := by decide +kernel
theorem dX5_foreseeGains_70 : decode cX5_foreseeGains 70 = .ok (.getfield 47, 3) := by decide +kernel
theorem dX5_foreseeGains_73 : decode cX5_foreseeGains 73 = .ok (.iload_n 2, 1) := by decide +kernel
theorem dX5_foreseeGains_74 : decode cX5_foreseeGains 74 = .ok (.aload_n 0, 1) := by decide +kernel
theorem dX5_foreseeGains_75 : decode cX5_foreseeGains 75 = .ok (.getfield 29, 3) := by decide +kernel
theorem dX5_foreseeGains_78 : decode cX5_foreseeGains 78 = .ok (.aload_n 0, 1) := by decide +kernel
theorem dX5_foreseeGains_79 : decode cX5_foreseeGains 79 = .ok (.getfield 33, 3) := by decide +kernel
theorem dX5_foreseeGains_82 : decode cX5_foreseeGains 82 = .ok (.iload_n 1, 1) := by decide +kernel
theorem dX5_foreseeGains_83 : decode cX5_foreseeGains 83 = .ok (.aload_n 0, 1) := by decide +kernel
theorem dX5_foreseeGains_84 : decode cX5_foreseeGains 84 = .ok (.getfield 10, 3) := by decide +kernel
theorem dX5_foreseeGains_87 : decode cX5_foreseeGains 87 = .ok (.getfield 78, 3) := by decide +kernel
theorem dX5_foreseeGains_90 : decode cX5_foreseeGains 90 = .ok (.invokevirtual 164, 3) := by decide +kernel
theorem dX5_foreseeGains_93 : decode cX5_foreseeGains 93 = .ok (.iastore, 1) := by decide +kernel
theorem dX5_foreseeGains_94 : decode cX5_foreseeGains 94 = .ok (.iinc 2 1, 3) := by decide +kernel
theorem dX5_foreseeGains_97 : decode cX5_foreseeGains 97 = .ok (.goto (-90), 3) := by decide +kernel
theorem dX5_foreseeGains_100 : decode cX5_foreseeGains 100 = .ok (.return_, 1) := by decide +kernel
def bX5_foreseeGains_7 (fu : Nat) : Nat → mt_St → Int32 → Int32 → Option (Unit × mt_St)
  | 0, _, _, _ => none
  | n + 1, σ, x1, x2 =>
    if (σ 1 7) ≤ x2 then
      some ((), σ)
    else
      mt_call (fX5_tryAlone fu σ x2) fun _ s2 =>
      mt_call (fX3_liveYears fu s2 37 x1 (s2 1 0)) fun r3 s4 =>
      mt_chk (mt_in x2 8) <|
      mt_bnd (mt_up s4 42 (Int32.toNatClampNeg x2) r3) fun s5 =>
      mt_call (fX5_tryAlone fu s5 x2) fun _ s7 =>
      mt_bnd (mt_up s7 37 4 (0 : Int32)) fun s8 =>
      mt_bnd (mt_up s8 37 6 (0 : Int32)) fun s9 =>
      mt_call (fX3_liveYears fu s9 37 x1 (s9 1 0)) fun r10 s11 =>
      mt_chk (mt_in x2 8) <|
      mt_bnd (mt_up s11 43 (Int32.toNatClampNeg x2) r10) fun s12 =>
      bX5_foreseeGains_7 fu n s12 x1 (x2 + 1)
set_option maxHeartbeats 4000000 in
set_option maxRecDepth 20000 in
theorem vX5_foreseeGains_7 {K : mt_C} {fu : Nat} {r : Unit} {σf : mt_St} (hQ : mt_R K none none σf) : ∀ (n : Nat) (σ : mt_St) (x1 : Int32) (x2 : Int32), mt_V K cX5_foreseeGains RX5 3 5 σ 7 [(0, .ref (mt_adr (kG K) 0)), (1, .int x1), (2, .int x2)] [] (bX5_foreseeGains_7 fu n σ x1 x2 = some (r, σf)) := by
  intro n
  induction n with
  | zero => intro σ x1 x2; intro hP; unfold bX5_foreseeGains_7 at hP; cases hP
  | succ n ih =>
    intro σ x1 x2
    unfold bX5_foreseeGains_7
    refine mv_iload_n 2 dX5_foreseeGains_7 rfl rfl ?_
    refine mv_aload_n 0 dX5_foreseeGains_8 rfl rfl ?_
    refine mg_X5_0 fl_X5_10 dX5_foreseeGains_9 ?_
    refine mg_X4_7 rfl fl_X5_91 dX5_foreseeGains_12 ?_
    refine mv_icmp_ge 100 dX5_foreseeGains_15 (by decide) ?_ ?_
    · exact mv_vret hQ dX5_foreseeGains_100
    · refine mv_aload_n 0 dX5_foreseeGains_18 rfl rfl ?_
      refine mv_iload_n 2 dX5_foreseeGains_19 rfl rfl ?_
      refine mv_cVwv (As := [.int x2]) (st := []) cal_X5_tryAlone ins_X5_tryAlone ml_X5_161 rfl (by decide) rfl rfl (by decide) rfl (Nat.le_of_ble_eq_true rfl) dX5_foreseeGains_20 (fun r s h => co_X5_tryAlone h) (fun r1 s2 => ?_)
      refine mv_aload_n 0 dX5_foreseeGains_23 rfl rfl ?_
      refine mg_X5_7 fl_X5_44 dX5_foreseeGains_24 ?_
      refine mv_iload_n 2 dX5_foreseeGains_27 rfl rfl ?_
      refine mv_aload_n 0 dX5_foreseeGains_28 rfl rfl ?_
      refine mg_X5_4 fl_X5_29 dX5_foreseeGains_29 ?_
      refine mv_aload_n 0 dX5_foreseeGains_32 rfl rfl ?_
      refine mg_X5_5 fl_X5_33 dX5_foreseeGains_33 ?_
      refine mv_iload_n 1 dX5_foreseeGains_36 rfl rfl ?_
      refine mv_aload_n 0 dX5_foreseeGains_37 rfl rfl ?_
      refine mg_X5_0 fl_X5_10 dX5_foreseeGains_38 ?_
      refine mg_X4_0 rfl fl_X5_78 dX5_foreseeGains_41 ?_
      refine mv_cVwi (As := [.ref (mt_adr (kG K) 38), .int x1, .int (s2 1 0)]) (st := [.int x2, .ref (mt_adr (kG K) 42)]) cal_X3_liveYears ins_X3_liveYears ml_X5_164 rfl (by decide) rfl rfl (by decide) rfl (Nat.le_of_ble_eq_true rfl) dX5_foreseeGains_44 (fun r s h => co_X3_liveYears rfl h) (fun r3 s4 => ?_)
      refine mv_iast 8 rfl rfl dX5_foreseeGains_47 (fun s5 => ?_)
      refine mv_aload_n 0 dX5_foreseeGains_48 rfl rfl ?_
      refine mv_iload_n 2 dX5_foreseeGains_49 rfl rfl ?_
      refine mv_cVwv (As := [.int x2]) (st := []) cal_X5_tryAlone ins_X5_tryAlone ml_X5_161 rfl (by decide) rfl rfl (by decide) rfl (Nat.le_of_ble_eq_true rfl) dX5_foreseeGains_50 (fun r s h => co_X5_tryAlone h) (fun r6 s7 => ?_)
      refine mv_aload_n 0 dX5_foreseeGains_53 rfl rfl ?_
      refine mg_X5_4 fl_X5_29 dX5_foreseeGains_54 ?_
      refine mv_iconst (v := 0) dX5_foreseeGains_57 ic_0 ?_
      refine mp_X3_4 rfl fl_X5_190 dX5_foreseeGains_58 (fun s8 => ?_)
      refine mv_aload_n 0 dX5_foreseeGains_61 rfl rfl ?_
      refine mg_X5_4 fl_X5_29 dX5_foreseeGains_62 ?_
      refine mv_iconst (v := 0) dX5_foreseeGains_65 ic_0 ?_
      refine mp_X3_6 rfl fl_X5_316 dX5_foreseeGains_66 (fun s9 => ?_)
      refine mv_aload_n 0 dX5_foreseeGains_69 rfl rfl ?_
      refine mg_X5_8 fl_X5_47 dX5_foreseeGains_70 ?_
      refine mv_iload_n 2 dX5_foreseeGains_73 rfl rfl ?_
      refine mv_aload_n 0 dX5_foreseeGains_74 rfl rfl ?_
      refine mg_X5_4 fl_X5_29 dX5_foreseeGains_75 ?_
      refine mv_aload_n 0 dX5_foreseeGains_78 rfl rfl ?_
      refine mg_X5_5 fl_X5_33 dX5_foreseeGains_79 ?_
      refine mv_iload_n 1 dX5_foreseeGains_82 rfl rfl ?_
      refine mv_aload_n 0 dX5_foreseeGains_83 rfl rfl ?_
      refine mg_X5_0 fl_X5_10 dX5_foreseeGains_84 ?_
      refine mg_X4_0 rfl fl_X5_78 dX5_foreseeGains_87 ?_
      refine mv_cVwi (As := [.ref (mt_adr (kG K) 38), .int x1, .int (s9 1 0)]) (st := [.int x2, .ref (mt_adr (kG K) 43)]) cal_X3_liveYears ins_X3_liveYears ml_X5_164 rfl (by decide) rfl rfl (by decide) rfl (Nat.le_of_ble_eq_true rfl) dX5_foreseeGains_90 (fun r s h => co_X3_liveYears rfl h) (fun r10 s11 => ?_)
      refine mv_iast 8 rfl rfl dX5_foreseeGains_93 (fun s12 => ?_)
      refine mv_iinc (k0 := 2) (v := x2 + 1) (lv' := [(0, .ref (mt_adr (kG K) 0)), (1, .int x1), (2, .int (x2 + 1))]) [1, 2, 0] dX5_foreseeGains_94 rfl (mt_inc ic_1) (by decide) rfl ?_
      refine mv_goto 7 dX5_foreseeGains_97 (by decide) ?_
      exact ih s12 x1 (x2 + 1)
def fX5_foreseeGains (fu : Nat) (σ : mt_St) (a1 : Int32) : Option (Unit × mt_St) :=
  mt_call (fX5_foreseeUps fu σ a1) fun _ s2 =>
  bX5_foreseeGains_7 fu fu s2 a1 (0 : Int32)
set_option maxHeartbeats 4000000 in
set_option maxRecDepth 20000 in
theorem vX5_foreseeGains {K : mt_C} {fu : Nat} {σ : mt_St} {a1 : Int32} {r : Unit} {σf : mt_St} (hQ : mt_R K none none σf) : mt_V K cX5_foreseeGains RX5 3 5 σ 0 [(0, .ref (mt_adr (kG K) 0)), (1, .int a1)] [] (fX5_foreseeGains fu σ a1 = some (r, σf)) := by
  unfold fX5_foreseeGains
  refine mv_aload_n 0 dX5_foreseeGains_0 rfl rfl ?_
  refine mv_iload_n 1 dX5_foreseeGains_1 rfl rfl ?_
  refine mv_cVwv (As := [.int a1]) (st := []) cal_X5_foreseeUps ins_X5_foreseeUps ml_X5_158 rfl (by decide) rfl rfl (by decide) rfl (Nat.le_of_ble_eq_true rfl) dX5_foreseeGains_2 (fun r s h => co_X5_foreseeUps h) (fun r1 s2 => ?_)
  refine mv_iconst (v := 0) dX5_foreseeGains_5 ic_0 ?_
  refine mv_istore_n (lv' := [(0, .ref (mt_adr (kG K) 0)), (1, .int a1), (2, .int (0 : Int32))]) [1, 2, 0] dX5_foreseeGains_6 rfl (by decide) rfl ?_
  exact vX5_foreseeGains_7 hQ fu s2 a1 (0 : Int32)
theorem co_X5_foreseeGains {l : Launch} {G : mt_G} {fu : Nat} {σ : mt_St} {a1 : Int32} {r : Unit} {σf : mt_St}  (h : fX5_foreseeGains fu σ a1 = some (r, σf)) : mt_Con l G yX5_foreseeGains cX5_foreseeGains 3 none 5 [.ref (mt_adr G 0), .int a1] σ none σf :=
  mt_con (by decide) (Nat.le_of_ble_eq_true rfl) (fun K hl hG hQ => by subst hl; subst hG; exact fun _ => vX5_foreseeGains  hQ h)
theorem dX5_goldWithTorn_0 : decode cX5_goldWithTorn 0 = .ok (.aload_n 0, 1) := by decide +kernel
theorem dX5_goldWithTorn_1 : decode cX5_goldWithTorn 1 = .ok (.getfield 10, 3) := by decide +kernel
theorem dX5_goldWithTorn_4 : decode cX5_goldWithTorn 4 = .ok (.getfield 137, 3) := by decide +kernel
theorem dX5_goldWithTorn_7 : decode cX5_goldWithTorn 7 = .ok (.istore_n 2, 1) := by decide +kernel
theorem dX5_goldWithTorn_8 : decode cX5_goldWithTorn 8 = .ok (.iconst 0, 1) := by decide +kernel
theorem dX5_goldWithTorn_9 : decode cX5_goldWithTorn 9 = .ok (.istore_n 3, 1) := by decide +kernel
theorem dX5_goldWithTorn_10 : decode cX5_goldWithTorn 10 = .ok (.iload_n 3, 1) := by decide +kernel
theorem dX5_goldWithTorn_11 : decode cX5_goldWithTorn 11 = .ok (.aload_n 0, 1) := by decide +kernel
theorem dX5_goldWithTorn_12 : decode cX5_goldWithTorn 12 = .ok (.getfield 10, 3) := by decide +kernel
theorem dX5_goldWithTorn_15 : decode cX5_goldWithTorn 15 = .ok (.getfield 91, 3) := by decide +kernel
theorem dX5_goldWithTorn_18 : decode cX5_goldWithTorn 18 = .ok (.if_icmp .ge 36, 3) := by decide +kernel
theorem dX5_goldWithTorn_21 : decode cX5_goldWithTorn 21 = .ok (.iload_n 2, 1) := by decide +kernel
theorem dX5_goldWithTorn_22 : decode cX5_goldWithTorn 22 = .ok (.iload_n 1, 1) := by decide +kernel
theorem dX5_goldWithTorn_23 : decode cX5_goldWithTorn 23 = .ok (.iload_n 3, 1) := by decide +kernel
theorem dX5_goldWithTorn_24 : decode cX5_goldWithTorn 24 = .ok (.ishr, 1) := by decide +kernel
theorem dX5_goldWithTorn_25 : decode cX5_goldWithTorn 25 = .ok (.iconst 1, 1) := by decide +kernel
theorem dX5_goldWithTorn_26 : decode cX5_goldWithTorn 26 = .ok (.iand, 1) := by decide +kernel
theorem dX5_goldWithTorn_27 : decode cX5_goldWithTorn 27 = .ok (.iconst 1, 1) := by decide +kernel
theorem dX5_goldWithTorn_28 : decode cX5_goldWithTorn 28 = .ok (.if_icmp .ne 12, 3) := by decide +kernel
theorem dX5_goldWithTorn_31 : decode cX5_goldWithTorn 31 = .ok (.aload_n 0, 1) := by decide +kernel
theorem dX5_goldWithTorn_32 : decode cX5_goldWithTorn 32 = .ok (.getfield 47, 3) := by decide +kernel
theorem dX5_goldWithTorn_35 : decode cX5_goldWithTorn 35 = .ok (.iload_n 3, 1) := by decide +kernel
theorem dX5_goldWithTorn_36 : decode cX5_goldWithTorn 36 = .ok (.iaload, 1) := by decide +kernel
theorem dX5_goldWithTorn_37 : decode cX5_goldWithTorn 37 = .ok (.goto 9, 3) := by decide +kernel
theorem dX5_goldWithTorn_40 : decode cX5_goldWithTorn 40 = .ok (.aload_n 0, 1) := by decide +kernel
theorem dX5_goldWithTorn_41 : decode cX5_goldWithTorn 41 = .ok (.getfield 44, 3) := by decide +kernel
theorem dX5_goldWithTorn_44 : decode cX5_goldWithTorn 44 = .ok (.iload_n 3, 1) := by decide +kernel
theorem dX5_goldWithTorn_45 : decode cX5_goldWithTorn 45 = .ok (.iaload, 1) := by decide +kernel
theorem dX5_goldWithTorn_46 : decode cX5_goldWithTorn 46 = .ok (.iadd, 1) := by decide +kernel
theorem dX5_goldWithTorn_47 : decode cX5_goldWithTorn 47 = .ok (.istore_n 2, 1) := by decide +kernel
theorem dX5_goldWithTorn_48 : decode cX5_goldWithTorn 48 = .ok (.iinc 3 1, 3) := by decide +kernel
theorem dX5_goldWithTorn_51 : decode cX5_goldWithTorn 51 = .ok (.goto (-41), 3) := by decide +kernel
theorem dX5_goldWithTorn_54 : decode cX5_goldWithTorn 54 = .ok (.iload_n 2, 1) := by decide +kernel
theorem dX5_goldWithTorn_55 : decode cX5_goldWithTorn 55 = .ok (.ldc 128, 2) := by decide +kernel
theorem dX5_goldWithTorn_57 : decode cX5_goldWithTorn 57 = .ok (.invokestatic 287, 3) := by decide +kernel
theorem dX5_goldWithTorn_60 : decode cX5_goldWithTorn 60 = .ok (.ireturn, 1) := by decide +kernel
def bX5_goldWithTorn_46 (fu : Nat) (σ : mt_St) (k10 : Int32 → Int32 → Int32 → Option Int32) (x1 : Int32) (x3 : Int32) (y0 : Int32) (y1 : Int32) : Option Int32 :=
  k10 x1 (y1 + y0) (x3 + 1)
set_option maxHeartbeats 4000000 in
set_option maxRecDepth 20000 in
theorem vX5_goldWithTorn_46 {K : mt_C} {fu : Nat} {σ : mt_St} {r : Int32} (hQ : mt_R K (some .int) (some (.int r)) σ) {k10 : Int32 → Int32 → Int32 → Option Int32} (hk10 : ∀ (x1 : Int32) (x2 : Int32) (x3 : Int32), mt_V K cX5_goldWithTorn RX5 4 1 σ 10 [(0, .ref (mt_adr (kG K) 0)), (1, .int x1), (2, .int x2), (3, .int x3)] [] (k10 x1 x2 x3 = some r)) : ∀ (x1 : Int32) (x3 : Int32) (y0 : Int32) (y1 : Int32), mt_V K cX5_goldWithTorn RX5 4 1 σ 46 [(0, .ref (mt_adr (kG K) 0)), (1, .int x1), (3, .int x3)] [.int y0, .int y1] (bX5_goldWithTorn_46 fu σ k10 x1 x3 y0 y1 = some r) := by
  intro x1 x3 y0 y1
  unfold bX5_goldWithTorn_46
  refine mv_iadd dX5_goldWithTorn_46 ?_
  refine mv_istore_n (lv' := [(0, .ref (mt_adr (kG K) 0)), (1, .int x1), (2, .int (y1 + y0)), (3, .int x3)]) [1, 2, 0, 3] dX5_goldWithTorn_47 rfl (by decide) rfl ?_
  refine mv_iinc (k0 := 3) (v := x3 + 1) (lv' := [(0, .ref (mt_adr (kG K) 0)), (1, .int x1), (2, .int (y1 + y0)), (3, .int (x3 + 1))]) [1, 2, 3, 0] dX5_goldWithTorn_48 rfl (mt_inc ic_1) (by decide) rfl ?_
  refine mv_goto 10 dX5_goldWithTorn_51 (by decide) ?_
  exact hk10 x1 (y1 + y0) (x3 + 1)
def bX5_goldWithTorn_10 (fu : Nat) (σ : mt_St) : Nat → Int32 → Int32 → Int32 → Option Int32
  | 0, _, _, _ => none
  | n + 1, x1, x2, x3 =>
    if (σ 1 7) ≤ x3 then
      some (mt_min x2 (99999 : Int32))
    else
      if ((x1 >>> (x3 &&& 31)) &&& (1 : Int32)) = (1 : Int32) then
        mt_chk (mt_in x3 8) <|
        bX5_goldWithTorn_46 fu σ (fun x1 x2 x3 => bX5_goldWithTorn_10 fu σ n x1 x2 x3) x1 x3 (σ 43 (Int32.toNatClampNeg x3)) x2
      else
        mt_chk (mt_in x3 8) <|
        bX5_goldWithTorn_46 fu σ (fun x1 x2 x3 => bX5_goldWithTorn_10 fu σ n x1 x2 x3) x1 x3 (σ 42 (Int32.toNatClampNeg x3)) x2
set_option maxHeartbeats 4000000 in
set_option maxRecDepth 20000 in
theorem vX5_goldWithTorn_10 {K : mt_C} {fu : Nat} {σ : mt_St} {r : Int32} (hQ : mt_R K (some .int) (some (.int r)) σ) : ∀ (n : Nat) (x1 : Int32) (x2 : Int32) (x3 : Int32), mt_V K cX5_goldWithTorn RX5 4 1 σ 10 [(0, .ref (mt_adr (kG K) 0)), (1, .int x1), (2, .int x2), (3, .int x3)] [] (bX5_goldWithTorn_10 fu σ n x1 x2 x3 = some r) := by
  intro n
  induction n with
  | zero => intro x1 x2 x3; intro hP; unfold bX5_goldWithTorn_10 at hP; cases hP
  | succ n ih =>
    intro x1 x2 x3
    unfold bX5_goldWithTorn_10
    refine mv_iload_n 3 dX5_goldWithTorn_10 rfl rfl ?_
    refine mv_aload_n 0 dX5_goldWithTorn_11 rfl rfl ?_
    refine mg_X5_0 fl_X5_10 dX5_goldWithTorn_12 ?_
    refine mg_X4_7 rfl fl_X5_91 dX5_goldWithTorn_15 ?_
    refine mv_icmp_ge 54 dX5_goldWithTorn_18 (by decide) ?_ ?_
    · refine mv_iload_n 2 dX5_goldWithTorn_54 rfl rfl ?_
      refine mv_ldc kc_X5_128 dX5_goldWithTorn_55 ?_
      refine mv_mmin mm_X5_287 (by decide) (Nat.le_of_ble_eq_true rfl) dX5_goldWithTorn_57 ?_
      exact mv_iretr hQ dX5_goldWithTorn_60
    · refine mv_iload_n 2 dX5_goldWithTorn_21 rfl rfl ?_
      refine mv_iload_n 1 dX5_goldWithTorn_22 rfl rfl ?_
      refine mv_iload_n 3 dX5_goldWithTorn_23 rfl rfl ?_
      refine mv_ishr dX5_goldWithTorn_24 ?_
      refine mv_iconst (v := 1) dX5_goldWithTorn_25 ic_1 ?_
      refine mv_iand dX5_goldWithTorn_26 ?_
      refine mv_iconst (v := 1) dX5_goldWithTorn_27 ic_1 ?_
      refine mv_icmp_ne 40 dX5_goldWithTorn_28 (by decide) ?_ ?_
      · refine mv_aload_n 0 dX5_goldWithTorn_40 rfl rfl ?_
        refine mg_X5_7 fl_X5_44 dX5_goldWithTorn_41 ?_
        refine mv_iload_n 3 dX5_goldWithTorn_44 rfl rfl ?_
        refine mv_iald 8 rfl rfl dX5_goldWithTorn_45 ?_
        refine mv_sub (lv' := [(0, .ref (mt_adr (kG K) 0)), (1, .int x1), (3, .int x3)]) [0, 1, 3] rfl ?_
        exact vX5_goldWithTorn_46 hQ (fun x1 x2 x3 => ih x1 x2 x3) x1 x3 (σ 42 (Int32.toNatClampNeg x3)) x2
      · refine mv_aload_n 0 dX5_goldWithTorn_31 rfl rfl ?_
        refine mg_X5_8 fl_X5_47 dX5_goldWithTorn_32 ?_
        refine mv_iload_n 3 dX5_goldWithTorn_35 rfl rfl ?_
        refine mv_iald 8 rfl rfl dX5_goldWithTorn_36 ?_
        refine mv_goto 46 dX5_goldWithTorn_37 (by decide) ?_
        refine mv_sub (lv' := [(0, .ref (mt_adr (kG K) 0)), (1, .int x1), (3, .int x3)]) [0, 1, 3] rfl ?_
        exact vX5_goldWithTorn_46 hQ (fun x1 x2 x3 => ih x1 x2 x3) x1 x3 (σ 43 (Int32.toNatClampNeg x3)) x2
def fX5_goldWithTorn (fu : Nat) (σ : mt_St) (a1 : Int32) : Option Int32 :=
  bX5_goldWithTorn_10 fu σ fu a1 (σ 1 3) (0 : Int32)
set_option maxHeartbeats 4000000 in
set_option maxRecDepth 20000 in
theorem vX5_goldWithTorn {K : mt_C} {fu : Nat} {σ : mt_St} {a1 : Int32} {r : Int32} (hQ : mt_R K (some .int) (some (.int r)) σ) : mt_V K cX5_goldWithTorn RX5 4 1 σ 0 [(0, .ref (mt_adr (kG K) 0)), (1, .int a1)] [] (fX5_goldWithTorn fu σ a1 = some r) := by
  unfold fX5_goldWithTorn
  refine mv_aload_n 0 dX5_goldWithTorn_0 rfl rfl ?_
  refine mg_X5_0 fl_X5_10 dX5_goldWithTorn_1 ?_
  refine mg_X4_3 rfl fl_X5_137 dX5_goldWithTorn_4 ?_
  refine mv_istore_n (lv' := [(0, .ref (mt_adr (kG K) 0)), (1, .int a1), (2, .int (σ 1 3))]) [1, 2, 0] dX5_goldWithTorn_7 rfl (by decide) rfl ?_
  refine mv_iconst (v := 0) dX5_goldWithTorn_8 ic_0 ?_
  refine mv_istore_n (lv' := [(0, .ref (mt_adr (kG K) 0)), (1, .int a1), (2, .int (σ 1 3)), (3, .int (0 : Int32))]) [1, 2, 3, 0] dX5_goldWithTorn_9 rfl (by decide) rfl ?_
  exact vX5_goldWithTorn_10 hQ fu a1 (σ 1 3) (0 : Int32)
theorem co_X5_goldWithTorn {l : Launch} {G : mt_G} {fu : Nat} {σ : mt_St} {a1 : Int32} {r : Int32}  (h : fX5_goldWithTorn fu σ a1 = some r) : mt_Con l G yX5_goldWithTorn cX5_goldWithTorn 4 (some .int) 1 [.ref (mt_adr G 0), .int a1] σ (some (.int r)) σ :=
  mt_con (by decide) (Nat.le_of_ble_eq_true rfl) (fun K hl hG hQ => by subst hl; subst hG; exact fun _ => vX5_goldWithTorn  hQ h)
theorem dX5_tear_0 : decode cX5_tear 0 = .ok (.iload_n 1, 1) := by decide +kernel
theorem dX5_tear_1 : decode cX5_tear 1 = .ok (.ldc 128, 2) := by decide +kernel
theorem dX5_tear_3 : decode cX5_tear 3 = .ok (.invokestatic 67, 3) := by decide +kernel
theorem dX5_tear_6 : decode cX5_tear 6 = .ok (.ifCond .eq 12, 3) := by decide +kernel
theorem dX5_tear_9 : decode cX5_tear 9 = .ok (.iload_n 2, 1) := by decide +kernel
theorem dX5_tear_10 : decode cX5_tear 10 = .ok (.bipush 20, 2) := by decide +kernel
theorem dX5_tear_12 : decode cX5_tear 12 = .ok (.invokestatic 67, 3) := by decide +kernel
theorem dX5_tear_15 : decode cX5_tear 15 = .ok (.ifCond .ne 9, 3) := by decide +kernel
theorem dX5_tear_18 : decode cX5_tear 18 = .ok (.aload_n 0, 1) := by decide +kernel
theorem dX5_tear_19 : decode cX5_tear 19 = .ok (.iconst 0, 1) := by decide +kernel
theorem dX5_tear_20 : decode cX5_tear 20 = .ok (.invokevirtual 71, 3) := by decide +kernel
theorem dX5_tear_23 : decode cX5_tear 23 = .ok (.ireturn, 1) := by decide +kernel
theorem dX5_tear_24 : decode cX5_tear 24 = .ok (.aload_n 0, 1) := by decide +kernel
theorem dX5_tear_25 : decode cX5_tear 25 = .ok (.iload_n 2, 1) := by decide +kernel
theorem dX5_tear_26 : decode cX5_tear 26 = .ok (.invokevirtual 203, 3) := by decide +kernel
theorem dX5_tear_29 : decode cX5_tear 29 = .ok (.iconst (-1), 1) := by decide +kernel
theorem dX5_tear_30 : decode cX5_tear 30 = .ok (.istore_n 3, 1) := by decide +kernel
theorem dX5_tear_31 : decode cX5_tear 31 = .ok (.bipush 9, 2) := by decide +kernel
theorem dX5_tear_33 : decode cX5_tear 33 = .ok (.istore 4, 2) := by decide +kernel
theorem dX5_tear_35 : decode cX5_tear 35 = .ok (.iconst 0, 1) := by decide +kernel
theorem dX5_tear_36 : decode cX5_tear 36 = .ok (.istore 5, 2) := by decide +kernel
theorem dX5_tear_38 : decode cX5_tear 38 = .ok (.iload 5, 2) := by decide +kernel
theorem dX5_tear_40 : decode cX5_tear 40 = .ok (.iconst 1, 1) := by decide +kernel
theorem dX5_tear_41 : decode cX5_tear 41 = .ok (.aload_n 0, 1) := by decide +kernel
theorem dX5_tear_42 : decode cX5_tear 42 = .ok (.getfield 10, 3) := by decide +kernel
theorem dX5_tear_45 : decode cX5_tear 45 = .ok (.getfield 91, 3) := by decide +kernel
theorem dX5_tear_48 : decode cX5_tear 48 = .ok (.ishl, 1) := by decide +kernel
theorem dX5_tear_49 : decode cX5_tear 49 = .ok (.if_icmp .ge 40, 3) := by decide +kernel
theorem dX5_tear_52 : decode cX5_tear 52 = .ok (.iload 5, 2) := by decide +kernel
theorem dX5_tear_54 : decode cX5_tear 54 = .ok (.invokestatic 196, 3) := by decide +kernel
theorem dX5_tear_57 : decode cX5_tear 57 = .ok (.istore 6, 2) := by decide +kernel
theorem dX5_tear_59 : decode cX5_tear 59 = .ok (.iload 6, 2) := by decide +kernel
theorem dX5_tear_61 : decode cX5_tear 61 = .ok (.iload 4, 2) := by decide +kernel
theorem dX5_tear_63 : decode cX5_tear 63 = .ok (.if_icmp .ge 20, 3) := by decide +kernel
theorem dX5_tear_66 : decode cX5_tear 66 = .ok (.aload_n 0, 1) := by decide +kernel
theorem dX5_tear_67 : decode cX5_tear 67 = .ok (.iload 5, 2) := by decide +kernel
theorem dX5_tear_69 : decode cX5_tear 69 = .ok (.invokevirtual 206, 3) := by decide +kernel
theorem dX5_tear_72 : decode cX5_tear 72 = .ok (.iload_n 1, 1) := by decide +kernel
theorem dX5_tear_73 : decode cX5_tear 73 = .ok (.if_icmp .gt 10, 3) := by decide +kernel
theorem dX5_tear_76 : decode cX5_tear 76 = .ok (.iload 6, 2) := by decide +kernel
theorem dX5_tear_78 : decode cX5_tear 78 = .ok (.istore 4, 2) := by decide +kernel
theorem dX5_tear_80 : decode cX5_tear 80 = .ok (.iload 5, 2) := by decide +kernel
theorem dX5_tear_82 : decode cX5_tear 82 = .ok (.istore_n 3, 1) := by decide +kernel
theorem dX5_tear_83 : decode cX5_tear 83 = .ok (.iinc 5 1, 3) := by decide +kernel
theorem dX5_tear_86 : decode cX5_tear 86 = .ok (.goto (-48), 3) := by decide +kernel
theorem dX5_tear_89 : decode cX5_tear 89 = .ok (.iload_n 3, 1) := by decide +kernel
theorem dX5_tear_90 : decode cX5_tear 90 = .ok (.ifCond .ge 11, 3) := by decide +kernel
theorem dX5_tear_93 : decode cX5_tear 93 = .ok (.aload_n 0, 1) := by decide +kernel
theorem dX5_tear_94 : decode cX5_tear 94 = .ok (.iconst 3, 1) := by decide +kernel
theorem dX5_tear_95 : decode cX5_tear 95 = .ok (.invokevirtual 71, 3) := by decide +kernel
theorem dX5_tear_98 : decode cX5_tear 98 = .ok (.goto 4, 3) := by decide +kernel
theorem dX5_tear_101 : decode cX5_tear 101 = .ok (.iload_n 3, 1) := by decide +kernel
theorem dX5_tear_102 : decode cX5_tear 102 = .ok (.ireturn, 1) := by decide +kernel
def bX5_tear_102 (fu : Nat) (σ : mt_St) (y0 : Int32) : Option (Int32 × mt_St) :=
  some (y0, σ)
set_option maxHeartbeats 4000000 in
set_option maxRecDepth 20000 in
theorem vX5_tear_102 {K : mt_C} {fu : Nat} {r : Int32} {σf : mt_St} (hQ : mt_R K (some .int) (some (.int r)) σf) : ∀ (σ : mt_St) (y0 : Int32), mt_V K cX5_tear RX5 7 6 σ 102 [] [.int y0] (bX5_tear_102 fu σ y0 = some (r, σf)) := by
  intro σ y0
  unfold bX5_tear_102
  exact mv_iret hQ dX5_tear_102
def bX5_tear_83 (fu : Nat) (k38 : mt_St → Int32 → Int32 → Int32 → Int32 → Option (Int32 × mt_St)) (σ : mt_St) (x1 : Int32) (x3 : Int32) (x4 : Int32) (x5 : Int32) : Option (Int32 × mt_St) :=
  k38 σ x1 x3 x4 (x5 + 1)
set_option maxHeartbeats 4000000 in
set_option maxRecDepth 20000 in
theorem vX5_tear_83 {K : mt_C} {fu : Nat} {r : Int32} {σf : mt_St} (hQ : mt_R K (some .int) (some (.int r)) σf) {k38 : mt_St → Int32 → Int32 → Int32 → Int32 → Option (Int32 × mt_St)} (hk38 : ∀ (s0 : mt_St) (x1 : Int32) (x3 : Int32) (x4 : Int32) (x5 : Int32), mt_V K cX5_tear RX5 7 6 s0 38 [(0, .ref (mt_adr (kG K) 0)), (1, .int x1), (3, .int x3), (4, .int x4), (5, .int x5)] [] (k38 s0 x1 x3 x4 x5 = some (r, σf))) : ∀ (σ : mt_St) (x1 : Int32) (x3 : Int32) (x4 : Int32) (x5 : Int32), mt_V K cX5_tear RX5 7 6 σ 83 [(0, .ref (mt_adr (kG K) 0)), (1, .int x1), (3, .int x3), (4, .int x4), (5, .int x5)] [] (bX5_tear_83 fu k38 σ x1 x3 x4 x5 = some (r, σf)) := by
  intro σ x1 x3 x4 x5
  unfold bX5_tear_83
  refine mv_iinc (k0 := 4) (v := x5 + 1) (lv' := [(0, .ref (mt_adr (kG K) 0)), (1, .int x1), (3, .int x3), (4, .int x4), (5, .int (x5 + 1))]) [1, 2, 3, 4, 0] dX5_tear_83 rfl (mt_inc ic_1) (by decide) rfl ?_
  refine mv_goto 38 dX5_tear_86 (by decide) ?_
  exact hk38 σ x1 x3 x4 (x5 + 1)
def bX5_tear_38 (fu : Nat) : Nat → mt_St → Int32 → Int32 → Int32 → Int32 → Option (Int32 × mt_St)
  | 0, _, _, _, _, _ => none
  | n + 1, σ, x1, x3, x4, x5 =>
    if ((1 : Int32) <<< ((σ 1 7) &&& 31)) ≤ x5 then
      if 0 ≤ x3 then
        bX5_tear_102 fu σ x3
      else
        mt_call (fX5_finding fu σ (3 : Int32)) fun r1 s2 =>
        bX5_tear_102 fu s2 r1
    else
      mt_ask (fJ6_bitCount_0f7a4 fu x5) fun r3 =>
      if x4 ≤ r3 then
        bX5_tear_83 fu (fun s0 x1 x3 x4 x5 => bX5_tear_38 fu n s0 x1 x3 x4 x5) σ x1 x3 x4 x5
      else
        mt_ask (fX5_goldWithTorn fu σ x5) fun r4 =>
        if x1 < r4 then
          bX5_tear_83 fu (fun s0 x1 x3 x4 x5 => bX5_tear_38 fu n s0 x1 x3 x4 x5) σ x1 x3 x4 x5
        else
          bX5_tear_83 fu (fun s0 x1 x3 x4 x5 => bX5_tear_38 fu n s0 x1 x3 x4 x5) σ x1 x5 r3 x5
set_option maxHeartbeats 4000000 in
set_option maxRecDepth 20000 in
theorem vX5_tear_38 {K : mt_C} {fu : Nat} {r : Int32} {σf : mt_St} (hQ : mt_R K (some .int) (some (.int r)) σf) : ∀ (n : Nat) (σ : mt_St) (x1 : Int32) (x3 : Int32) (x4 : Int32) (x5 : Int32), mt_V K cX5_tear RX5 7 6 σ 38 [(0, .ref (mt_adr (kG K) 0)), (1, .int x1), (3, .int x3), (4, .int x4), (5, .int x5)] [] (bX5_tear_38 fu n σ x1 x3 x4 x5 = some (r, σf)) := by
  intro n
  induction n with
  | zero => intro σ x1 x3 x4 x5; intro hP; unfold bX5_tear_38 at hP; cases hP
  | succ n ih =>
    intro σ x1 x3 x4 x5
    unfold bX5_tear_38
    refine mv_iload 4 dX5_tear_38 rfl ?_
    refine mv_iconst (v := 1) dX5_tear_40 ic_1 ?_
    refine mv_aload_n 0 dX5_tear_41 rfl rfl ?_
    refine mg_X5_0 fl_X5_10 dX5_tear_42 ?_
    refine mg_X4_7 rfl fl_X5_91 dX5_tear_45 ?_
    refine mv_ishl dX5_tear_48 ?_
    refine mv_icmp_ge 89 dX5_tear_49 (by decide) ?_ ?_
    · refine mv_iload_n 2 dX5_tear_89 rfl rfl ?_
      refine mv_if_ge 101 dX5_tear_90 (by decide) ?_ ?_
      · refine mv_iload_n 2 dX5_tear_101 rfl rfl ?_
        refine mv_sub (lv' := []) [] rfl ?_
        exact vX5_tear_102 hQ σ x3
      · refine mv_aload_n 0 dX5_tear_93 rfl rfl ?_
        refine mv_iconst (v := 3) dX5_tear_94 ic_3 ?_
        refine mv_cVwi (As := [.int (3 : Int32)]) (st := []) cal_X5_finding ins_X5_finding ml_X5_71 rfl (by decide) rfl rfl (by decide) rfl (Nat.le_of_ble_eq_true rfl) dX5_tear_95 (fun r s h => co_X5_finding h) (fun r1 s2 => ?_)
        refine mv_goto 102 dX5_tear_98 (by decide) ?_
        refine mv_sub (lv' := []) [] rfl ?_
        exact vX5_tear_102 hQ s2 r1
    · refine mv_iload 4 dX5_tear_52 rfl ?_
      refine mv_cSri (As := [.int x5]) (st := []) cal_J6_bitCount_0f7a4 sta_J6_bitCount_0f7a4 ml_X5_196 rfl (by decide) rfl (Nat.le_of_ble_eq_true rfl) dX5_tear_54 (fun r h => co_J6_bitCount_0f7a4 h) (fun r3 => ?_)
      refine mv_istore (lv' := [(0, .ref (mt_adr (kG K) 0)), (1, .int x1), (3, .int x3), (4, .int x4), (5, .int x5), (6, .int r3)]) [1, 2, 3, 4, 5, 0] dX5_tear_57 (by decide) rfl ?_
      refine mv_iload 5 dX5_tear_59 rfl ?_
      refine mv_iload 3 dX5_tear_61 rfl ?_
      refine mv_icmp_ge 83 dX5_tear_63 (by decide) ?_ ?_
      · refine mv_sub (lv' := [(0, .ref (mt_adr (kG K) 0)), (1, .int x1), (3, .int x3), (4, .int x4), (5, .int x5)]) [0, 1, 2, 3, 4] rfl ?_
        exact vX5_tear_83 hQ (fun s0 x1 x3 x4 x5 => ih s0 x1 x3 x4 x5) σ x1 x3 x4 x5
      · refine mv_aload_n 0 dX5_tear_66 rfl rfl ?_
        refine mv_iload 4 dX5_tear_67 rfl ?_
        refine mv_cVri (As := [.int x5]) (st := []) cal_X5_goldWithTorn ins_X5_goldWithTorn ml_X5_206 rfl (by decide) rfl rfl (by decide) rfl (Nat.le_of_ble_eq_true rfl) dX5_tear_69 (fun r h => co_X5_goldWithTorn h) (fun r4 => ?_)
        refine mv_iload_n 1 dX5_tear_72 rfl rfl ?_
        refine mv_icmp_gt 83 dX5_tear_73 (by decide) ?_ ?_
        · refine mv_sub (lv' := [(0, .ref (mt_adr (kG K) 0)), (1, .int x1), (3, .int x3), (4, .int x4), (5, .int x5)]) [0, 1, 2, 3, 4] rfl ?_
          exact vX5_tear_83 hQ (fun s0 x1 x3 x4 x5 => ih s0 x1 x3 x4 x5) σ x1 x3 x4 x5
        · refine mv_iload 5 dX5_tear_76 rfl ?_
          refine mv_istore (lv' := [(0, .ref (mt_adr (kG K) 0)), (1, .int x1), (4, .int r3), (5, .int x5)]) [1, 2, 0, 4] dX5_tear_78 (by decide) rfl ?_
          refine mv_iload 3 dX5_tear_80 rfl ?_
          refine mv_istore_n (lv' := [(0, .ref (mt_adr (kG K) 0)), (1, .int x1), (3, .int x5), (4, .int r3), (5, .int x5)]) [1, 2, 0, 3, 4] dX5_tear_82 rfl (by decide) rfl ?_
          exact vX5_tear_83 hQ (fun s0 x1 x3 x4 x5 => ih s0 x1 x3 x4 x5) σ x1 x5 r3 x5
def bX5_tear_18 (fu : Nat) (σ : mt_St) : Option (Int32 × mt_St) :=
  mt_call (fX5_finding fu σ (0 : Int32)) fun r1 s2 =>
  some (r1, s2)
set_option maxHeartbeats 4000000 in
set_option maxRecDepth 20000 in
theorem vX5_tear_18 {K : mt_C} {fu : Nat} {r : Int32} {σf : mt_St} (hQ : mt_R K (some .int) (some (.int r)) σf) : ∀ (σ : mt_St), mt_V K cX5_tear RX5 7 6 σ 18 [(0, .ref (mt_adr (kG K) 0))] [] (bX5_tear_18 fu σ = some (r, σf)) := by
  intro σ
  unfold bX5_tear_18
  refine mv_aload_n 0 dX5_tear_18 rfl rfl ?_
  refine mv_iconst (v := 0) dX5_tear_19 ic_0 ?_
  refine mv_cVwi (As := [.int (0 : Int32)]) (st := []) cal_X5_finding ins_X5_finding ml_X5_71 rfl (by decide) rfl rfl (by decide) rfl (Nat.le_of_ble_eq_true rfl) dX5_tear_20 (fun r s h => co_X5_finding h) (fun r1 s2 => ?_)
  exact mv_iret hQ dX5_tear_23
def fX5_tear (fu : Nat) (σ : mt_St) (a1 : Int32) (a2 : Int32) : Option (Int32 × mt_St) :=
  mt_ask (fX5_isWithin fu a1 (99999 : Int32)) fun r1 =>
  if r1 = 0 then
    bX5_tear_18 fu σ
  else
    mt_ask (fX5_isWithin fu a2 (20 : Int32)) fun r2 =>
    if r2 = 0 then
      bX5_tear_18 fu σ
    else
      mt_call (fX5_foreseeGains fu σ a2) fun _ s4 =>
      bX5_tear_38 fu fu s4 a1 (-1 : Int32) (9 : Int32) (0 : Int32)
set_option maxHeartbeats 4000000 in
set_option maxRecDepth 20000 in
theorem vX5_tear {K : mt_C} {fu : Nat} {σ : mt_St} {a1 : Int32} {a2 : Int32} {r : Int32} {σf : mt_St} (hQ : mt_R K (some .int) (some (.int r)) σf) : mt_V K cX5_tear RX5 7 6 σ 0 [(0, .ref (mt_adr (kG K) 0)), (1, .int a1), (2, .int a2)] [] (fX5_tear fu σ a1 a2 = some (r, σf)) := by
  unfold fX5_tear
  refine mv_iload_n 1 dX5_tear_0 rfl rfl ?_
  refine mv_ldc kc_X5_128 dX5_tear_1 ?_
  refine mv_cSri (As := [.int a1, .int (99999 : Int32)]) (st := []) cal_X5_isWithin sta_X5_isWithin ml_X5_67 rfl (by decide) rfl (Nat.le_of_ble_eq_true rfl) dX5_tear_3 (fun r h => co_X5_isWithin h) (fun r1 => ?_)
  refine mv_if_eq 18 dX5_tear_6 (by decide) ?_ ?_
  · refine mv_sub (lv' := [(0, .ref (mt_adr (kG K) 0))]) [0] rfl ?_
    exact vX5_tear_18 hQ σ
  · refine mv_iload_n 2 dX5_tear_9 rfl rfl ?_
    refine mv_bipush (v := 20) dX5_tear_10 bp_20 ?_
    refine mv_cSri (As := [.int a2, .int (20 : Int32)]) (st := []) cal_X5_isWithin sta_X5_isWithin ml_X5_67 rfl (by decide) rfl (Nat.le_of_ble_eq_true rfl) dX5_tear_12 (fun r h => co_X5_isWithin h) (fun r2 => ?_)
    refine mv_if_ne 24 dX5_tear_15 (by decide) ?_ ?_
    · refine mv_aload_n 0 dX5_tear_24 rfl rfl ?_
      refine mv_iload_n 2 dX5_tear_25 rfl rfl ?_
      refine mv_cVwv (As := [.int a2]) (st := []) cal_X5_foreseeGains ins_X5_foreseeGains ml_X5_203 rfl (by decide) rfl rfl (by decide) rfl (Nat.le_of_ble_eq_true rfl) dX5_tear_26 (fun r s h => co_X5_foreseeGains h) (fun r3 s4 => ?_)
      refine mv_iconst (v := -1) dX5_tear_29 ic_m1 ?_
      refine mv_istore_n (lv' := [(0, .ref (mt_adr (kG K) 0)), (1, .int a1), (3, .int (-1 : Int32))]) [1, 2, 0] dX5_tear_30 rfl (by decide) rfl ?_
      refine mv_bipush (v := 9) dX5_tear_31 bp_9 ?_
      refine mv_istore (lv' := [(0, .ref (mt_adr (kG K) 0)), (1, .int a1), (3, .int (-1 : Int32)), (4, .int (9 : Int32))]) [1, 2, 3, 0] dX5_tear_33 (by decide) rfl ?_
      refine mv_iconst (v := 0) dX5_tear_35 ic_0 ?_
      refine mv_istore (lv' := [(0, .ref (mt_adr (kG K) 0)), (1, .int a1), (3, .int (-1 : Int32)), (4, .int (9 : Int32)), (5, .int (0 : Int32))]) [1, 2, 3, 4, 0] dX5_tear_36 (by decide) rfl ?_
      exact vX5_tear_38 hQ fu s4 a1 (-1 : Int32) (9 : Int32) (0 : Int32)
    · refine mv_sub (lv' := [(0, .ref (mt_adr (kG K) 0))]) [0] rfl ?_
      exact vX5_tear_18 hQ σ
theorem co_X5_tear {l : Launch} {G : mt_G} {fu : Nat} {σ : mt_St} {a1 : Int32} {a2 : Int32} {r : Int32} {σf : mt_St}  (h : fX5_tear fu σ a1 a2 = some (r, σf)) : mt_Con l G yX5_tear cX5_tear 7 (some .int) 6 [.ref (mt_adr G 0), .int a1, .int a2] σ (some (.int r)) σf :=
  mt_con (by decide) (Nat.le_of_ble_eq_true rfl) (fun K hl hG hQ => by subst hl; subst hG; exact fun _ => vX5_tear  hQ h)
theorem dX5_isSheet_0 : decode cX5_isSheet 0 = .ok (.iload_n 1, 1) := by decide +kernel
theorem dX5_isSheet_1 : decode cX5_isSheet 1 = .ok (.iconst 3, 1) := by decide +kernel
theorem dX5_isSheet_2 : decode cX5_isSheet 2 = .ok (.invokestatic 67, 3) := by decide +kernel
theorem dX5_isSheet_5 : decode cX5_isSheet 5 = .ok (.ireturn, 1) := by decide +kernel
def fX5_isSheet (fu : Nat) (a1 : Int32) : Option Int32 :=
  mt_ask (fX5_isWithin fu a1 (3 : Int32)) fun r1 =>
  mt_chk (mt_b01 r1) (some r1)
set_option maxHeartbeats 4000000 in
set_option maxRecDepth 20000 in
theorem vX5_isSheet {K : mt_C} {fu : Nat} {σ : mt_St} {a1 : Int32} {r : Int32} (hQ : mt_R K (some .boolean) (some (.int r)) σ) : mt_V K cX5_isSheet RX5 2 1 σ 0 [(0, .ref (mt_adr (kG K) 0)), (1, .int a1)] [] (fX5_isSheet fu a1 = some r) := by
  unfold fX5_isSheet
  refine mv_iload_n 1 dX5_isSheet_0 rfl rfl ?_
  refine mv_iconst (v := 3) dX5_isSheet_1 ic_3 ?_
  refine mv_cSri (As := [.int a1, .int (3 : Int32)]) (st := []) cal_X5_isWithin sta_X5_isWithin ml_X5_67 rfl (by decide) rfl (Nat.le_of_ble_eq_true rfl) dX5_isSheet_2 (fun r h => co_X5_isWithin h) (fun r1 => ?_)
  exact mv_zretr hQ dX5_isSheet_5
theorem co_X5_isSheet {l : Launch} {G : mt_G} {fu : Nat} {σ : mt_St} {a1 : Int32} {r : Int32}  (h : fX5_isSheet fu a1 = some r) : mt_Con l G yX5_isSheet cX5_isSheet 2 (some .boolean) 1 [.ref (mt_adr G 0), .int a1] σ (some (.int r)) σ :=
  mt_con (by decide) (Nat.le_of_ble_eq_true rfl) (fun K hl hG hQ => by subst hl; subst hG; exact fun _ => vX5_isSheet  hQ h)
theorem dX5_faultOfSheet_0 : decode cX5_faultOfSheet 0 = .ok (.aload_n 0, 1) := by decide +kernel
theorem dX5_faultOfSheet_1 : decode cX5_faultOfSheet 1 = .ok (.iload_n 1, 1) := by decide +kernel
theorem dX5_faultOfSheet_2 : decode cX5_faultOfSheet 2 = .ok (.invokevirtual 255, 3) := by decide +kernel
theorem dX5_faultOfSheet_5 : decode cX5_faultOfSheet 5 = .ok (.ifCond .ne 5, 3) := by decide +kernel
theorem dX5_faultOfSheet_8 : decode cX5_faultOfSheet 8 = .ok (.iconst 0, 1) := by decide +kernel
theorem dX5_faultOfSheet_9 : decode cX5_faultOfSheet 9 = .ok (.ireturn, 1) := by decide +kernel
theorem dX5_faultOfSheet_10 : decode cX5_faultOfSheet 10 = .ok (.aload_n 0, 1) := by decide +kernel
theorem dX5_faultOfSheet_11 : decode cX5_faultOfSheet 11 = .ok (.getfield 59, 3) := by decide +kernel
theorem dX5_faultOfSheet_14 : decode cX5_faultOfSheet 14 = .ok (.iload_n 1, 1) := by decide +kernel
theorem dX5_faultOfSheet_15 : decode cX5_faultOfSheet 15 = .ok (.aaload, 1) := by decide +kernel
theorem dX5_faultOfSheet_16 : decode cX5_faultOfSheet 16 = .ok (.invokevirtual 262, 3) := by decide +kernel
theorem dX5_faultOfSheet_19 : decode cX5_faultOfSheet 19 = .ok (.ifCond .eq 7, 3) := by decide +kernel
theorem dX5_faultOfSheet_22 : decode cX5_faultOfSheet 22 = .ok (.iconst 5, 1) := by decide +kernel
theorem dX5_faultOfSheet_23 : decode cX5_faultOfSheet 23 = .ok (.goto 4, 3) := by decide +kernel
theorem dX5_faultOfSheet_26 : decode cX5_faultOfSheet 26 = .ok (.iconst (-1), 1) := by decide +kernel
theorem dX5_faultOfSheet_27 : decode cX5_faultOfSheet 27 = .ok (.ireturn, 1) := by decide +kernel
def bX5_faultOfSheet_27 (fu : Nat) (σ : mt_St) (y0 : Int32) : Option Int32 :=
  some y0
set_option maxHeartbeats 4000000 in
set_option maxRecDepth 20000 in
theorem vX5_faultOfSheet_27 {K : mt_C} {fu : Nat} {σ : mt_St} {r : Int32} (hQ : mt_R K (some .int) (some (.int r)) σ) : ∀ (y0 : Int32), mt_V K cX5_faultOfSheet RX5 2 2 σ 27 [] [.int y0] (bX5_faultOfSheet_27 fu σ y0 = some r) := by
  intro y0
  unfold bX5_faultOfSheet_27
  exact mv_iretr hQ dX5_faultOfSheet_27
def fX5_faultOfSheet (fu : Nat) (σ : mt_St) (a1 : Int32) : Option Int32 :=
  mt_ask (fX5_isSheet fu a1) fun r1 =>
  if r1 = 0 then
    some (0 : Int32)
  else
    mt_chk (mt_in a1 4) <|
    mt_ask (fX1_isMissing fu σ (46 + 1 + Int32.toNatClampNeg a1)) fun r3 =>
    if r3 = 0 then
      bX5_faultOfSheet_27 fu σ (-1 : Int32)
    else
      bX5_faultOfSheet_27 fu σ (5 : Int32)
set_option maxHeartbeats 4000000 in
set_option maxRecDepth 20000 in
theorem vX5_faultOfSheet {K : mt_C} {fu : Nat} {σ : mt_St} {a1 : Int32} {r : Int32} (hQ : mt_R K (some .int) (some (.int r)) σ) : mt_V K cX5_faultOfSheet RX5 2 2 σ 0 [(0, .ref (mt_adr (kG K) 0)), (1, .int a1)] [] (fX5_faultOfSheet fu σ a1 = some r) := by
  unfold fX5_faultOfSheet
  refine mv_aload_n 0 dX5_faultOfSheet_0 rfl rfl ?_
  refine mv_iload_n 1 dX5_faultOfSheet_1 rfl rfl ?_
  refine mv_cVri (As := [.int a1]) (st := []) cal_X5_isSheet ins_X5_isSheet ml_X5_255 rfl (by decide) rfl rfl (by decide) rfl (Nat.le_of_ble_eq_true rfl) dX5_faultOfSheet_2 (fun r h => co_X5_isSheet h) (fun r1 => ?_)
  refine mv_if_ne 10 dX5_faultOfSheet_5 (by decide) ?_ ?_
  · refine mv_aload_n 0 dX5_faultOfSheet_10 rfl rfl ?_
    refine mg_X5_10 fl_X5_59 dX5_faultOfSheet_11 ?_
    refine mv_iload_n 1 dX5_faultOfSheet_14 rfl rfl ?_
    refine mv_aaldS rfl rfl dX5_faultOfSheet_15 (fun h2 => ?_)
    refine mv_cVri (As := []) (st := []) cal_X1_isMissing ins_X1_isMissing ml_X5_262 (kd_st rfl h2) (by decide) rfl rfl (by decide) rfl (Nat.le_of_ble_eq_true rfl) dX5_faultOfSheet_16 (fun r h => co_X1_isMissing (kd_st rfl h2) h) (fun r3 => ?_)
    refine mv_if_eq 26 dX5_faultOfSheet_19 (by decide) ?_ ?_
    · refine mv_iconst (v := -1) dX5_faultOfSheet_26 ic_m1 ?_
      refine mv_sub (lv' := []) [] rfl ?_
      exact vX5_faultOfSheet_27 hQ (-1 : Int32)
    · refine mv_iconst (v := 5) dX5_faultOfSheet_22 ic_5 ?_
      refine mv_goto 27 dX5_faultOfSheet_23 (by decide) ?_
      refine mv_sub (lv' := []) [] rfl ?_
      exact vX5_faultOfSheet_27 hQ (5 : Int32)
  · refine mv_iconst (v := 0) dX5_faultOfSheet_8 ic_0 ?_
    exact mv_iretr hQ dX5_faultOfSheet_9
theorem co_X5_faultOfSheet {l : Launch} {G : mt_G} {fu : Nat} {σ : mt_St} {a1 : Int32} {r : Int32}  (h : fX5_faultOfSheet fu σ a1 = some r) : mt_Con l G yX5_faultOfSheet cX5_faultOfSheet 2 (some .int) 2 [.ref (mt_adr G 0), .int a1] σ (some (.int r)) σ :=
  mt_con (by decide) (Nat.le_of_ble_eq_true rfl) (fun K hl hG hQ => by subst hl; subst hG; exact fun _ => vX5_faultOfSheet  hQ h)
theorem dX5_faultOfSheetAndTreaty_0 : decode cX5_faultOfSheetAndTreaty 0 = .ok (.aload_n 0, 1) := by decide +kernel
theorem dX5_faultOfSheetAndTreaty_1 : decode cX5_faultOfSheetAndTreaty 1 = .ok (.iload_n 1, 1) := by decide +kernel
theorem dX5_faultOfSheetAndTreaty_2 : decode cX5_faultOfSheetAndTreaty 2 = .ok (.invokevirtual 284, 3) := by decide +kernel
theorem dX5_faultOfSheetAndTreaty_5 : decode cX5_faultOfSheetAndTreaty 5 = .ok (.istore_n 3, 1) := by decide +kernel
theorem dX5_faultOfSheetAndTreaty_6 : decode cX5_faultOfSheetAndTreaty 6 = .ok (.iload_n 3, 1) := by decide +kernel
theorem dX5_faultOfSheetAndTreaty_7 : decode cX5_faultOfSheetAndTreaty 7 = .ok (.ifCond .lt 5, 3) := by decide +kernel
theorem dX5_faultOfSheetAndTreaty_10 : decode cX5_faultOfSheetAndTreaty 10 = .ok (.iload_n 3, 1) := by decide +kernel
theorem dX5_faultOfSheetAndTreaty_11 : decode cX5_faultOfSheetAndTreaty 11 = .ok (.ireturn, 1) := by decide +kernel
theorem dX5_faultOfSheetAndTreaty_12 : decode cX5_faultOfSheetAndTreaty 12 = .ok (.aload_n 0, 1) := by decide +kernel
theorem dX5_faultOfSheetAndTreaty_13 : decode cX5_faultOfSheetAndTreaty 13 = .ok (.iload_n 2, 1) := by decide +kernel
theorem dX5_faultOfSheetAndTreaty_14 : decode cX5_faultOfSheetAndTreaty 14 = .ok (.invokevirtual 98, 3) := by decide +kernel
theorem dX5_faultOfSheetAndTreaty_17 : decode cX5_faultOfSheetAndTreaty 17 = .ok (.ifCond .eq 7, 3) := by decide +kernel
theorem dX5_faultOfSheetAndTreaty_20 : decode cX5_faultOfSheetAndTreaty 20 = .ok (.iconst (-1), 1) := by decide +kernel
theorem dX5_faultOfSheetAndTreaty_21 : decode cX5_faultOfSheetAndTreaty 21 = .ok (.goto 4, 3) := by decide +kernel
theorem dX5_faultOfSheetAndTreaty_24 : decode cX5_faultOfSheetAndTreaty 24 = .ok (.iconst 0, 1) := by decide +kernel
theorem dX5_faultOfSheetAndTreaty_25 : decode cX5_faultOfSheetAndTreaty 25 = .ok (.ireturn, 1) := by decide +kernel
def bX5_faultOfSheetAndTreaty_25 (fu : Nat) (σ : mt_St) (y0 : Int32) : Option Int32 :=
  some y0
set_option maxHeartbeats 4000000 in
set_option maxRecDepth 20000 in
theorem vX5_faultOfSheetAndTreaty_25 {K : mt_C} {fu : Nat} {σ : mt_St} {r : Int32} (hQ : mt_R K (some .int) (some (.int r)) σ) : ∀ (y0 : Int32), mt_V K cX5_faultOfSheetAndTreaty RX5 4 3 σ 25 [] [.int y0] (bX5_faultOfSheetAndTreaty_25 fu σ y0 = some r) := by
  intro y0
  unfold bX5_faultOfSheetAndTreaty_25
  exact mv_iretr hQ dX5_faultOfSheetAndTreaty_25
def fX5_faultOfSheetAndTreaty (fu : Nat) (σ : mt_St) (a1 : Int32) (a2 : Int32) : Option Int32 :=
  mt_ask (fX5_faultOfSheet fu σ a1) fun r1 =>
  if r1 < 0 then
    mt_ask (fX5_isTreaty fu σ a2) fun r2 =>
    if r2 = 0 then
      bX5_faultOfSheetAndTreaty_25 fu σ (0 : Int32)
    else
      bX5_faultOfSheetAndTreaty_25 fu σ (-1 : Int32)
  else
    some r1
set_option maxHeartbeats 4000000 in
set_option maxRecDepth 20000 in
theorem vX5_faultOfSheetAndTreaty {K : mt_C} {fu : Nat} {σ : mt_St} {a1 : Int32} {a2 : Int32} {r : Int32} (hQ : mt_R K (some .int) (some (.int r)) σ) : mt_V K cX5_faultOfSheetAndTreaty RX5 4 3 σ 0 [(0, .ref (mt_adr (kG K) 0)), (1, .int a1), (2, .int a2)] [] (fX5_faultOfSheetAndTreaty fu σ a1 a2 = some r) := by
  unfold fX5_faultOfSheetAndTreaty
  refine mv_aload_n 0 dX5_faultOfSheetAndTreaty_0 rfl rfl ?_
  refine mv_iload_n 1 dX5_faultOfSheetAndTreaty_1 rfl rfl ?_
  refine mv_cVri (As := [.int a1]) (st := []) cal_X5_faultOfSheet ins_X5_faultOfSheet ml_X5_284 rfl (by decide) rfl rfl (by decide) rfl (Nat.le_of_ble_eq_true rfl) dX5_faultOfSheetAndTreaty_2 (fun r h => co_X5_faultOfSheet h) (fun r1 => ?_)
  refine mv_istore_n (lv' := [(0, .ref (mt_adr (kG K) 0)), (2, .int a2), (3, .int r1)]) [1, 3, 0] dX5_faultOfSheetAndTreaty_5 rfl (by decide) rfl ?_
  refine mv_iload_n 2 dX5_faultOfSheetAndTreaty_6 rfl rfl ?_
  refine mv_if_lt 12 dX5_faultOfSheetAndTreaty_7 (by decide) ?_ ?_
  · refine mv_aload_n 0 dX5_faultOfSheetAndTreaty_12 rfl rfl ?_
    refine mv_iload_n 1 dX5_faultOfSheetAndTreaty_13 rfl rfl ?_
    refine mv_cVri (As := [.int a2]) (st := []) cal_X5_isTreaty ins_X5_isTreaty ml_X5_98 rfl (by decide) rfl rfl (by decide) rfl (Nat.le_of_ble_eq_true rfl) dX5_faultOfSheetAndTreaty_14 (fun r h => co_X5_isTreaty h) (fun r2 => ?_)
    refine mv_if_eq 24 dX5_faultOfSheetAndTreaty_17 (by decide) ?_ ?_
    · refine mv_iconst (v := 0) dX5_faultOfSheetAndTreaty_24 ic_0 ?_
      refine mv_sub (lv' := []) [] rfl ?_
      exact vX5_faultOfSheetAndTreaty_25 hQ (0 : Int32)
    · refine mv_iconst (v := -1) dX5_faultOfSheetAndTreaty_20 ic_m1 ?_
      refine mv_goto 25 dX5_faultOfSheetAndTreaty_21 (by decide) ?_
      refine mv_sub (lv' := []) [] rfl ?_
      exact vX5_faultOfSheetAndTreaty_25 hQ (-1 : Int32)
  · refine mv_iload_n 2 dX5_faultOfSheetAndTreaty_10 rfl rfl ?_
    exact mv_iretr hQ dX5_faultOfSheetAndTreaty_11
theorem co_X5_faultOfSheetAndTreaty {l : Launch} {G : mt_G} {fu : Nat} {σ : mt_St} {a1 : Int32} {a2 : Int32} {r : Int32}  (h : fX5_faultOfSheetAndTreaty fu σ a1 a2 = some r) : mt_Con l G yX5_faultOfSheetAndTreaty cX5_faultOfSheetAndTreaty 4 (some .int) 3 [.ref (mt_adr G 0), .int a1, .int a2] σ (some (.int r)) σ :=
  mt_con (by decide) (Nat.le_of_ble_eq_true rfl) (fun K hl hG hQ => by subst hl; subst hG; exact fun _ => vX5_faultOfSheetAndTreaty  hQ h)
theorem dX5_figuresWeighing_0 : decode cX5_figuresWeighing 0 = .ok (.aload_n 0, 1) := by decide +kernel
theorem dX5_figuresWeighing_1 : decode cX5_figuresWeighing 1 = .ok (.iload_n 1, 1) := by decide +kernel
theorem dX5_figuresWeighing_2 : decode cX5_figuresWeighing 2 = .ok (.invokevirtual 161, 3) := by decide +kernel
theorem dX5_figuresWeighing_5 : decode cX5_figuresWeighing 5 = .ok (.aload_n 0, 1) := by decide +kernel
theorem dX5_figuresWeighing_6 : decode cX5_figuresWeighing 6 = .ok (.getfield 29, 3) := by decide +kernel
theorem dX5_figuresWeighing_9 : decode cX5_figuresWeighing 9 = .ok (.getfield 190, 3) := by decide +kernel
theorem dX5_figuresWeighing_12 : decode cX5_figuresWeighing 12 = .ok (.ifCond .eq 14, 3) := by decide +kernel
theorem dX5_figuresWeighing_15 : decode cX5_figuresWeighing 15 = .ok (.aload_n 0, 1) := by decide +kernel
theorem dX5_figuresWeighing_16 : decode cX5_figuresWeighing 16 = .ok (.getfield 29, 3) := by decide +kernel
theorem dX5_figuresWeighing_19 : decode cX5_figuresWeighing 19 = .ok (.getfield 184, 3) := by decide +kernel
theorem dX5_figuresWeighing_22 : decode cX5_figuresWeighing 22 = .ok (.iconst 5, 1) := by decide +kernel
theorem dX5_figuresWeighing_23 : decode cX5_figuresWeighing 23 = .ok (.if_icmp .ne 5, 3) := by decide +kernel
theorem dX5_figuresWeighing_26 : decode cX5_figuresWeighing 26 = .ok (.iconst 0, 1) := by decide +kernel
theorem dX5_figuresWeighing_27 : decode cX5_figuresWeighing 27 = .ok (.ireturn, 1) := by decide +kernel
theorem dX5_figuresWeighing_28 : decode cX5_figuresWeighing 28 = .ok (.aload_n 0, 1) := by decide +kernel
theorem dX5_figuresWeighing_29 : decode cX5_figuresWeighing 29 = .ok (.getfield 29, 3) := by decide +kernel
theorem dX5_figuresWeighing_32 : decode cX5_figuresWeighing 32 = .ok (.iload_n 2, 1) := by decide +kernel
theorem dX5_figuresWeighing_33 : decode cX5_figuresWeighing 33 = .ok (.invokevirtual 305, 3) := by decide +kernel
theorem dX5_figuresWeighing_36 : decode cX5_figuresWeighing 36 = .ok (.ifCond .eq 7, 3) := by decide +kernel
theorem dX5_figuresWeighing_39 : decode cX5_figuresWeighing 39 = .ok (.sipush 4095, 3) := by decide +kernel
theorem dX5_figuresWeighing_42 : decode cX5_figuresWeighing 42 = .ok (.ireturn, 1) := by decide +kernel
theorem dX5_figuresWeighing_43 : decode cX5_figuresWeighing 43 = .ok (.iconst 0, 1) := by decide +kernel
theorem dX5_figuresWeighing_44 : decode cX5_figuresWeighing 44 = .ok (.istore_n 3, 1) := by decide +kernel
theorem dX5_figuresWeighing_45 : decode cX5_figuresWeighing 45 = .ok (.iconst 0, 1) := by decide +kernel
theorem dX5_figuresWeighing_46 : decode cX5_figuresWeighing 46 = .ok (.istore 4, 2) := by decide +kernel
theorem dX5_figuresWeighing_48 : decode cX5_figuresWeighing 48 = .ok (.iload 4, 2) := by decide +kernel
theorem dX5_figuresWeighing_50 : decode cX5_figuresWeighing 50 = .ok (.iload_n 2, 1) := by decide +kernel
theorem dX5_figuresWeighing_51 : decode cX5_figuresWeighing 51 = .ok (.if_icmp .ge 27, 3) := by decide +kernel
theorem dX5_figuresWeighing_54 : decode cX5_figuresWeighing 54 = .ok (.iload 4, 2) := by decide +kernel
theorem dX5_figuresWeighing_56 : decode cX5_figuresWeighing 56 = .ok (.sipush 200, 3) := by decide +kernel
theorem dX5_figuresWeighing_59 : decode cX5_figuresWeighing 59 = .ok (.if_icmp .ge 19, 3) := by decide +kernel
theorem dX5_figuresWeighing_62 : decode cX5_figuresWeighing 62 = .ok (.iload_n 3, 1) := by decide +kernel
theorem dX5_figuresWeighing_63 : decode cX5_figuresWeighing 63 = .ok (.aload_n 0, 1) := by decide +kernel
theorem dX5_figuresWeighing_64 : decode cX5_figuresWeighing 64 = .ok (.getfield 33, 3) := by decide +kernel
theorem dX5_figuresWeighing_67 : decode cX5_figuresWeighing 67 = .ok (.iload 4, 2) := by decide +kernel
theorem dX5_figuresWeighing_69 : decode cX5_figuresWeighing 69 = .ok (.iaload, 1) := by decide +kernel
theorem dX5_figuresWeighing_70 : decode cX5_figuresWeighing 70 = .ok (.ior, 1) := by decide +kernel
theorem dX5_figuresWeighing_71 : decode cX5_figuresWeighing 71 = .ok (.istore_n 3, 1) := by decide +kernel
theorem dX5_figuresWeighing_72 : decode cX5_figuresWeighing 72 = .ok (.iinc 4 1, 3) := by decide +kernel
theorem dX5_figuresWeighing_75 : decode cX5_figuresWeighing 75 = .ok (.goto (-27), 3) := by decide +kernel
theorem dX5_figuresWeighing_78 : decode cX5_figuresWeighing 78 = .ok (.iload_n 3, 1) := by decide +kernel
theorem dX5_figuresWeighing_79 : decode cX5_figuresWeighing 79 = .ok (.ireturn, 1) := by decide +kernel
def bX5_figuresWeighing_78 (fu : Nat) (σ : mt_St) (x3 : Int32) : Option (Int32 × mt_St) :=
  some (x3, σ)
set_option maxHeartbeats 4000000 in
set_option maxRecDepth 20000 in
theorem vX5_figuresWeighing_78 {K : mt_C} {fu : Nat} {r : Int32} {σf : mt_St} (hQ : mt_R K (some .int) (some (.int r)) σf) : ∀ (σ : mt_St) (x3 : Int32), mt_V K cX5_figuresWeighing RX5 5 3 σ 78 [(3, .int x3)] [] (bX5_figuresWeighing_78 fu σ x3 = some (r, σf)) := by
  intro σ x3
  unfold bX5_figuresWeighing_78
  refine mv_iload_n 0 dX5_figuresWeighing_78 rfl rfl ?_
  exact mv_iret hQ dX5_figuresWeighing_79
def bX5_figuresWeighing_48 (fu : Nat) : Nat → mt_St → Int32 → Int32 → Int32 → Option (Int32 × mt_St)
  | 0, _, _, _, _ => none
  | n + 1, σ, x2, x3, x4 =>
    if x2 ≤ x4 then
      bX5_figuresWeighing_78 fu σ x3
    else
      if (200 : Int32) ≤ x4 then
        bX5_figuresWeighing_78 fu σ x3
      else
        mt_chk (mt_in x4 200) <|
        bX5_figuresWeighing_48 fu n σ x2 (x3 ||| (σ 38 (Int32.toNatClampNeg x4))) (x4 + 1)
set_option maxHeartbeats 4000000 in
set_option maxRecDepth 20000 in
theorem vX5_figuresWeighing_48 {K : mt_C} {fu : Nat} {r : Int32} {σf : mt_St} (hQ : mt_R K (some .int) (some (.int r)) σf) : ∀ (n : Nat) (σ : mt_St) (x2 : Int32) (x3 : Int32) (x4 : Int32), mt_V K cX5_figuresWeighing RX5 5 3 σ 48 [(0, .ref (mt_adr (kG K) 0)), (2, .int x2), (3, .int x3), (4, .int x4)] [] (bX5_figuresWeighing_48 fu n σ x2 x3 x4 = some (r, σf)) := by
  intro n
  induction n with
  | zero => intro σ x2 x3 x4; intro hP; unfold bX5_figuresWeighing_48 at hP; cases hP
  | succ n ih =>
    intro σ x2 x3 x4
    unfold bX5_figuresWeighing_48
    refine mv_iload 3 dX5_figuresWeighing_48 rfl ?_
    refine mv_iload_n 1 dX5_figuresWeighing_50 rfl rfl ?_
    refine mv_icmp_ge 78 dX5_figuresWeighing_51 (by decide) ?_ ?_
    · refine mv_sub (lv' := [(3, .int x3)]) [2] rfl ?_
      exact vX5_figuresWeighing_78 hQ σ x3
    · refine mv_iload 3 dX5_figuresWeighing_54 rfl ?_
      refine mv_sipush (v := 200) dX5_figuresWeighing_56 sp_200 ?_
      refine mv_icmp_ge 78 dX5_figuresWeighing_59 (by decide) ?_ ?_
      · refine mv_sub (lv' := [(3, .int x3)]) [2] rfl ?_
        exact vX5_figuresWeighing_78 hQ σ x3
      · refine mv_iload_n 2 dX5_figuresWeighing_62 rfl rfl ?_
        refine mv_aload_n 0 dX5_figuresWeighing_63 rfl rfl ?_
        refine mg_X5_5 fl_X5_33 dX5_figuresWeighing_64 ?_
        refine mv_iload 3 dX5_figuresWeighing_67 rfl ?_
        refine mv_iald 200 rfl rfl dX5_figuresWeighing_69 ?_
        refine mv_ior dX5_figuresWeighing_70 ?_
        refine mv_istore_n (lv' := [(0, .ref (mt_adr (kG K) 0)), (2, .int x2), (3, .int (x3 ||| (σ 38 (Int32.toNatClampNeg x4)))), (4, .int x4)]) [1, 2, 0, 3] dX5_figuresWeighing_71 rfl (by decide) rfl ?_
        refine mv_iinc (k0 := 3) (v := x4 + 1) (lv' := [(0, .ref (mt_adr (kG K) 0)), (2, .int x2), (3, .int (x3 ||| (σ 38 (Int32.toNatClampNeg x4)))), (4, .int (x4 + 1))]) [1, 2, 3, 0] dX5_figuresWeighing_72 rfl (mt_inc ic_1) (by decide) rfl ?_
        refine mv_goto 48 dX5_figuresWeighing_75 (by decide) ?_
        exact ih σ x2 (x3 ||| (σ 38 (Int32.toNatClampNeg x4))) (x4 + 1)
def bX5_figuresWeighing_26 (fu : Nat) (σ : mt_St) : Option (Int32 × mt_St) :=
  some ((0 : Int32), σ)
set_option maxHeartbeats 4000000 in
set_option maxRecDepth 20000 in
theorem vX5_figuresWeighing_26 {K : mt_C} {fu : Nat} {r : Int32} {σf : mt_St} (hQ : mt_R K (some .int) (some (.int r)) σf) : ∀ (σ : mt_St), mt_V K cX5_figuresWeighing RX5 5 3 σ 26 [] [] (bX5_figuresWeighing_26 fu σ = some (r, σf)) := by
  intro σ
  unfold bX5_figuresWeighing_26
  refine mv_iconst (v := 0) dX5_figuresWeighing_26 ic_0 ?_
  exact mv_iret hQ dX5_figuresWeighing_27
def fX5_figuresWeighing (fu : Nat) (σ : mt_St) (a1 : Int32) (a2 : Int32) : Option (Int32 × mt_St) :=
  mt_call (fX5_tryAlone fu σ a1) fun _ s2 =>
  if (s2 37 4) = 0 then
    bX5_figuresWeighing_26 fu s2
  else
    if (s2 37 0) = (5 : Int32) then
      bX5_figuresWeighing_26 fu s2
    else
      mt_ask (fX3_fadesWithin fu s2 37 a2) fun r3 =>
      if r3 = 0 then
        bX5_figuresWeighing_48 fu fu s2 a2 (0 : Int32) (0 : Int32)
      else
        some ((4095 : Int32), s2)
set_option maxHeartbeats 4000000 in
set_option maxRecDepth 20000 in
theorem vX5_figuresWeighing {K : mt_C} {fu : Nat} {σ : mt_St} {a1 : Int32} {a2 : Int32} {r : Int32} {σf : mt_St} (hQ : mt_R K (some .int) (some (.int r)) σf) : mt_V K cX5_figuresWeighing RX5 5 3 σ 0 [(0, .ref (mt_adr (kG K) 0)), (1, .int a1), (2, .int a2)] [] (fX5_figuresWeighing fu σ a1 a2 = some (r, σf)) := by
  unfold fX5_figuresWeighing
  refine mv_aload_n 0 dX5_figuresWeighing_0 rfl rfl ?_
  refine mv_iload_n 1 dX5_figuresWeighing_1 rfl rfl ?_
  refine mv_cVwv (As := [.int a1]) (st := []) cal_X5_tryAlone ins_X5_tryAlone ml_X5_161 rfl (by decide) rfl rfl (by decide) rfl (Nat.le_of_ble_eq_true rfl) dX5_figuresWeighing_2 (fun r s h => co_X5_tryAlone h) (fun r1 s2 => ?_)
  refine mv_aload_n 0 dX5_figuresWeighing_5 rfl rfl ?_
  refine mg_X5_4 fl_X5_29 dX5_figuresWeighing_6 ?_
  refine mg_X3_4 rfl fl_X5_190 dX5_figuresWeighing_9 ?_
  refine mv_if_eq 26 dX5_figuresWeighing_12 (by decide) ?_ ?_
  · refine mv_sub (lv' := []) [] rfl ?_
    exact vX5_figuresWeighing_26 hQ s2
  · refine mv_aload_n 0 dX5_figuresWeighing_15 rfl rfl ?_
    refine mg_X5_4 fl_X5_29 dX5_figuresWeighing_16 ?_
    refine mg_X3_0 rfl fl_X5_184 dX5_figuresWeighing_19 ?_
    refine mv_iconst (v := 5) dX5_figuresWeighing_22 ic_5 ?_
    refine mv_icmp_ne 28 dX5_figuresWeighing_23 (by decide) ?_ ?_
    · refine mv_aload_n 0 dX5_figuresWeighing_28 rfl rfl ?_
      refine mg_X5_4 fl_X5_29 dX5_figuresWeighing_29 ?_
      refine mv_iload_n 2 dX5_figuresWeighing_32 rfl rfl ?_
      refine mv_cVri (As := [.int a2]) (st := []) cal_X3_fadesWithin ins_X3_fadesWithin ml_X5_305 rfl (by decide) rfl rfl (by decide) rfl (Nat.le_of_ble_eq_true rfl) dX5_figuresWeighing_33 (fun r h => co_X3_fadesWithin rfl h) (fun r3 => ?_)
      refine mv_if_eq 43 dX5_figuresWeighing_36 (by decide) ?_ ?_
      · refine mv_iconst (v := 0) dX5_figuresWeighing_43 ic_0 ?_
        refine mv_istore_n (lv' := [(0, .ref (mt_adr (kG K) 0)), (2, .int a2), (3, .int (0 : Int32))]) [1, 3, 0] dX5_figuresWeighing_44 rfl (by decide) rfl ?_
        refine mv_iconst (v := 0) dX5_figuresWeighing_45 ic_0 ?_
        refine mv_istore (lv' := [(0, .ref (mt_adr (kG K) 0)), (2, .int a2), (3, .int (0 : Int32)), (4, .int (0 : Int32))]) [1, 2, 3, 0] dX5_figuresWeighing_46 (by decide) rfl ?_
        exact vX5_figuresWeighing_48 hQ fu s2 a2 (0 : Int32) (0 : Int32)
      · refine mv_sipush (v := 4095) dX5_figuresWeighing_39 sp_4095 ?_
        exact mv_iret hQ dX5_figuresWeighing_42
    · refine mv_sub (lv' := []) [] rfl ?_
      exact vX5_figuresWeighing_26 hQ s2
theorem co_X5_figuresWeighing {l : Launch} {G : mt_G} {fu : Nat} {σ : mt_St} {a1 : Int32} {a2 : Int32} {r : Int32} {σf : mt_St}  (h : fX5_figuresWeighing fu σ a1 a2 = some (r, σf)) : mt_Con l G yX5_figuresWeighing cX5_figuresWeighing 5 (some .int) 3 [.ref (mt_adr G 0), .int a1, .int a2] σ (some (.int r)) σf :=
  mt_con (by decide) (Nat.le_of_ble_eq_true rfl) (fun K hl hG hQ => by subst hl; subst hG; exact fun _ => vX5_figuresWeighing  hQ h)
theorem dX5_followsSheet_0 : decode cX5_followsSheet 0 = .ok (.iconst 0, 1) := by decide +kernel
theorem dX5_followsSheet_1 : decode cX5_followsSheet 1 = .ok (.istore 4, 2) := by decide +kernel
theorem dX5_followsSheet_3 : decode cX5_followsSheet 3 = .ok (.iload 4, 2) := by decide +kernel
theorem dX5_followsSheet_5 : decode cX5_followsSheet 5 = .ok (.iload_n 2, 1) := by decide +kernel
theorem dX5_followsSheet_6 : decode cX5_followsSheet 6 = .ok (.if_icmp .ge 72, 3) := by decide +kernel
theorem dX5_followsSheet_9 : decode cX5_followsSheet 9 = .ok (.iload 4, 2) := by decide +kernel
theorem dX5_followsSheet_11 : decode cX5_followsSheet 11 = .ok (.iconst 1, 1) := by decide +kernel
theorem dX5_followsSheet_12 : decode cX5_followsSheet 12 = .ok (.isub, 1) := by decide +kernel
theorem dX5_followsSheet_13 : decode cX5_followsSheet 13 = .ok (.sipush 199, 3) := by decide +kernel
theorem dX5_followsSheet_16 : decode cX5_followsSheet 16 = .ok (.invokestatic 67, 3) := by decide +kernel
theorem dX5_followsSheet_19 : decode cX5_followsSheet 19 = .ok (.ifCond .eq 27, 3) := by decide +kernel
theorem dX5_followsSheet_22 : decode cX5_followsSheet 22 = .ok (.aload_n 0, 1) := by decide +kernel
theorem dX5_followsSheet_23 : decode cX5_followsSheet 23 = .ok (.getfield 29, 3) := by decide +kernel
theorem dX5_followsSheet_26 : decode cX5_followsSheet 26 = .ok (.aload_n 0, 1) := by decide +kernel
theorem dX5_followsSheet_27 : decode cX5_followsSheet 27 = .ok (.getfield 33, 3) := by decide +kernel
theorem dX5_followsSheet_30 : decode cX5_followsSheet 30 = .ok (.iload 4, 2) := by decide +kernel
theorem dX5_followsSheet_32 : decode cX5_followsSheet 32 = .ok (.iconst 1, 1) := by decide +kernel
theorem dX5_followsSheet_33 : decode cX5_followsSheet 33 = .ok (.isub, 1) := by decide +kernel
theorem dX5_followsSheet_34 : decode cX5_followsSheet 34 = .ok (.iaload, 1) := by decide +kernel
theorem dX5_followsSheet_35 : decode cX5_followsSheet 35 = .ok (.aload_n 0, 1) := by decide +kernel
theorem dX5_followsSheet_36 : decode cX5_followsSheet 36 = .ok (.getfield 10, 3) := by decide +kernel
theorem dX5_followsSheet_39 : decode cX5_followsSheet 39 = .ok (.getfield 78, 3) := by decide +kernel
theorem dX5_followsSheet_42 : decode cX5_followsSheet 42 = .ok (.invokevirtual 175, 3) := by decide +kernel
theorem dX5_followsSheet_45 : decode cX5_followsSheet 45 = .ok (.pop, 1) := by decide +kernel
theorem dX5_followsSheet_46 : decode cX5_followsSheet 46 = .ok (.aload_n 1, 1) := by decide +kernel
theorem dX5_followsSheet_47 : decode cX5_followsSheet 47 = .ok (.iload 4, 2) := by decide +kernel
theorem dX5_followsSheet_49 : decode cX5_followsSheet 49 = .ok (.aload_n 0, 1) := by decide +kernel
theorem dX5_followsSheet_50 : decode cX5_followsSheet 50 = .ok (.getfield 29, 3) := by decide +kernel
theorem dX5_followsSheet_53 : decode cX5_followsSheet 53 = .ok (.iload_n 3, 1) := by decide +kernel
theorem dX5_followsSheet_54 : decode cX5_followsSheet 54 = .ok (.aload_n 0, 1) := by decide +kernel
theorem dX5_followsSheet_55 : decode cX5_followsSheet 55 = .ok (.getfield 10, 3) := by decide +kernel
theorem dX5_followsSheet_58 : decode cX5_followsSheet 58 = .ok (.getfield 82, 3) := by decide +kernel
theorem dX5_followsSheet_61 : decode cX5_followsSheet 61 = .ok (.invokevirtual 106, 3) := by decide +kernel
theorem dX5_followsSheet_64 : decode cX5_followsSheet 64 = .ok (.invokevirtual 308, 3) := by decide +kernel
theorem dX5_followsSheet_67 : decode cX5_followsSheet 67 = .ok (.ifCond .ne 5, 3) := by decide +kernel
theorem dX5_followsSheet_70 : decode cX5_followsSheet 70 = .ok (.iconst 0, 1) := by decide +kernel
theorem dX5_followsSheet_71 : decode cX5_followsSheet 71 = .ok (.ireturn, 1) := by decide +kernel
theorem dX5_followsSheet_72 : decode cX5_followsSheet 72 = .ok (.iinc 4 1, 3) := by decide +kernel
theorem dX5_followsSheet_75 : decode cX5_followsSheet 75 = .ok (.goto (-72), 3) := by decide +kernel
theorem dX5_followsSheet_78 : decode cX5_followsSheet 78 = .ok (.iconst 1, 1) := by decide +kernel
theorem dX5_followsSheet_79 : decode cX5_followsSheet 79 = .ok (.ireturn, 1) := by decide +kernel
def bX5_followsSheet_46 (fu : Nat) (a1 : Nat) (k3 : mt_St → Int32 → Int32 → Int32 → Option (Int32 × mt_St)) (σ : mt_St) (x2 : Int32) (x3 : Int32) (x4 : Int32) : Option (Int32 × mt_St) :=
  mt_ask (fX3_tell fu σ 37 x3 (σ 1 1)) fun r1 =>
  mt_ask (fX1_allows fu σ a1 x4 r1) fun r2 =>
  if r2 = 0 then
    some ((0 : Int32), σ)
  else
    k3 σ x2 x3 (x4 + 1)
set_option maxHeartbeats 4000000 in
set_option maxRecDepth 20000 in
theorem vX5_followsSheet_46 {K : mt_C} {fu : Nat} {a1 : Nat} {r : Int32} {σf : mt_St} (ha1 : mt_kd a1 = 1) (hQ : mt_R K (some .boolean) (some (.int r)) σf) {k3 : mt_St → Int32 → Int32 → Int32 → Option (Int32 × mt_St)} (hk3 : ∀ (s0 : mt_St) (x2 : Int32) (x3 : Int32) (x4 : Int32), mt_V K cX5_followsSheet RX5 5 4 s0 3 [(0, .ref (mt_adr (kG K) 0)), (1, .ref (mt_adr (kG K) a1)), (2, .int x2), (3, .int x3), (4, .int x4)] [] (k3 s0 x2 x3 x4 = some (r, σf))) : ∀ (σ : mt_St) (x2 : Int32) (x3 : Int32) (x4 : Int32), mt_V K cX5_followsSheet RX5 5 4 σ 46 [(0, .ref (mt_adr (kG K) 0)), (1, .ref (mt_adr (kG K) a1)), (2, .int x2), (3, .int x3), (4, .int x4)] [] (bX5_followsSheet_46 fu a1 k3 σ x2 x3 x4 = some (r, σf)) := by
  intro σ x2 x3 x4
  unfold bX5_followsSheet_46
  refine mv_aload_n 1 dX5_followsSheet_46 rfl rfl ?_
  refine mv_iload 4 dX5_followsSheet_47 rfl ?_
  refine mv_aload_n 0 dX5_followsSheet_49 rfl rfl ?_
  refine mg_X5_4 fl_X5_29 dX5_followsSheet_50 ?_
  refine mv_iload_n 3 dX5_followsSheet_53 rfl rfl ?_
  refine mv_aload_n 0 dX5_followsSheet_54 rfl rfl ?_
  refine mg_X5_0 fl_X5_10 dX5_followsSheet_55 ?_
  refine mg_X4_1 rfl fl_X5_82 dX5_followsSheet_58 ?_
  refine mv_cVri (As := [.int x3, .int (σ 1 1)]) (st := [.int x4, .ref (mt_adr (kG K) a1)]) cal_X3_tell ins_X3_tell ml_X5_106 rfl (by decide) rfl rfl (by decide) rfl (Nat.le_of_ble_eq_true rfl) dX5_followsSheet_61 (fun r h => co_X3_tell rfl h) (fun r1 => ?_)
  refine mv_cVri (As := [.int x4, .int r1]) (st := []) cal_X1_allows ins_X1_allows ml_X5_308 ha1 (by decide) rfl rfl (by decide) rfl (Nat.le_of_ble_eq_true rfl) dX5_followsSheet_64 (fun r h => co_X1_allows ha1 h) (fun r2 => ?_)
  refine mv_if_ne 72 dX5_followsSheet_67 (by decide) ?_ ?_
  · refine mv_iinc (k0 := 4) (v := x4 + 1) (lv' := [(0, .ref (mt_adr (kG K) 0)), (1, .ref (mt_adr (kG K) a1)), (2, .int x2), (3, .int x3), (4, .int (x4 + 1))]) [1, 2, 3, 4, 0] dX5_followsSheet_72 rfl (mt_inc ic_1) (by decide) rfl ?_
    refine mv_goto 3 dX5_followsSheet_75 (by decide) ?_
    exact hk3 σ x2 x3 (x4 + 1)
  · refine mv_iconst (v := 0) dX5_followsSheet_70 ic_0 ?_
    exact mv_zret0 hQ (by decide) dX5_followsSheet_71
def bX5_followsSheet_3 (fu : Nat) (a1 : Nat) : Nat → mt_St → Int32 → Int32 → Int32 → Option (Int32 × mt_St)
  | 0, _, _, _, _ => none
  | n + 1, σ, x2, x3, x4 =>
    if x2 ≤ x4 then
      some ((1 : Int32), σ)
    else
      mt_ask (fX5_isWithin fu (x4 - (1 : Int32)) (199 : Int32)) fun r1 =>
      if r1 = 0 then
        bX5_followsSheet_46 fu a1 (fun s0 x2 x3 x4 => bX5_followsSheet_3 fu a1 n s0 x2 x3 x4) σ x2 x3 x4
      else
        mt_chk (mt_in (x4 - (1 : Int32)) 200) <|
        mt_call (fX3_live fu σ 37 (σ 38 (Int32.toNatClampNeg (x4 - (1 : Int32)))) (σ 1 0)) fun r2 s3 =>
        bX5_followsSheet_46 fu a1 (fun s0 x2 x3 x4 => bX5_followsSheet_3 fu a1 n s0 x2 x3 x4) s3 x2 x3 x4
set_option maxHeartbeats 4000000 in
set_option maxRecDepth 20000 in
theorem vX5_followsSheet_3 {K : mt_C} {fu : Nat} {a1 : Nat} {r : Int32} {σf : mt_St} (ha1 : mt_kd a1 = 1) (hQ : mt_R K (some .boolean) (some (.int r)) σf) : ∀ (n : Nat) (σ : mt_St) (x2 : Int32) (x3 : Int32) (x4 : Int32), mt_V K cX5_followsSheet RX5 5 4 σ 3 [(0, .ref (mt_adr (kG K) 0)), (1, .ref (mt_adr (kG K) a1)), (2, .int x2), (3, .int x3), (4, .int x4)] [] (bX5_followsSheet_3 fu a1 n σ x2 x3 x4 = some (r, σf)) := by
  intro n
  induction n with
  | zero => intro σ x2 x3 x4; intro hP; unfold bX5_followsSheet_3 at hP; cases hP
  | succ n ih =>
    intro σ x2 x3 x4
    unfold bX5_followsSheet_3
    refine mv_iload 4 dX5_followsSheet_3 rfl ?_
    refine mv_iload_n 2 dX5_followsSheet_5 rfl rfl ?_
    refine mv_icmp_ge 78 dX5_followsSheet_6 (by decide) ?_ ?_
    · refine mv_iconst (v := 1) dX5_followsSheet_78 ic_1 ?_
      exact mv_zret0 hQ (by decide) dX5_followsSheet_79
    · refine mv_iload 4 dX5_followsSheet_9 rfl ?_
      refine mv_iconst (v := 1) dX5_followsSheet_11 ic_1 ?_
      refine mv_isub dX5_followsSheet_12 ?_
      refine mv_sipush (v := 199) dX5_followsSheet_13 sp_199 ?_
      refine mv_cSri (As := [.int (x4 - (1 : Int32)), .int (199 : Int32)]) (st := []) cal_X5_isWithin sta_X5_isWithin ml_X5_67 rfl (by decide) rfl (Nat.le_of_ble_eq_true rfl) dX5_followsSheet_16 (fun r h => co_X5_isWithin h) (fun r1 => ?_)
      refine mv_if_eq 46 dX5_followsSheet_19 (by decide) ?_ ?_
      · exact vX5_followsSheet_46 ha1 hQ (fun s0 x2 x3 x4 => ih s0 x2 x3 x4) σ x2 x3 x4
      · refine mv_aload_n 0 dX5_followsSheet_22 rfl rfl ?_
        refine mg_X5_4 fl_X5_29 dX5_followsSheet_23 ?_
        refine mv_aload_n 0 dX5_followsSheet_26 rfl rfl ?_
        refine mg_X5_5 fl_X5_33 dX5_followsSheet_27 ?_
        refine mv_iload 4 dX5_followsSheet_30 rfl ?_
        refine mv_iconst (v := 1) dX5_followsSheet_32 ic_1 ?_
        refine mv_isub dX5_followsSheet_33 ?_
        refine mv_iald 200 rfl rfl dX5_followsSheet_34 ?_
        refine mv_aload_n 0 dX5_followsSheet_35 rfl rfl ?_
        refine mg_X5_0 fl_X5_10 dX5_followsSheet_36 ?_
        refine mg_X4_0 rfl fl_X5_78 dX5_followsSheet_39 ?_
        refine mv_cVwi (As := [.int (σ 38 (Int32.toNatClampNeg (x4 - (1 : Int32)))), .int (σ 1 0)]) (st := []) cal_X3_live ins_X3_live ml_X5_175 rfl (by decide) rfl rfl (by decide) rfl (Nat.le_of_ble_eq_true rfl) dX5_followsSheet_42 (fun r s h => co_X3_live rfl h) (fun r2 s3 => ?_)
        refine mv_pop dX5_followsSheet_45 rfl ?_
        exact vX5_followsSheet_46 ha1 hQ (fun s0 x2 x3 x4 => ih s0 x2 x3 x4) s3 x2 x3 x4
def fX5_followsSheet (fu : Nat) (σ : mt_St) (a1 : Nat) (a2 : Int32) (a3 : Int32) : Option (Int32 × mt_St) :=
  bX5_followsSheet_3 fu a1 fu σ a2 a3 (0 : Int32)
set_option maxHeartbeats 4000000 in
set_option maxRecDepth 20000 in
theorem vX5_followsSheet {K : mt_C} {fu : Nat} {σ : mt_St} {a1 : Nat} {a2 : Int32} {a3 : Int32} {r : Int32} {σf : mt_St} (ha1 : mt_kd a1 = 1) (hQ : mt_R K (some .boolean) (some (.int r)) σf) : mt_V K cX5_followsSheet RX5 5 4 σ 0 [(0, .ref (mt_adr (kG K) 0)), (1, .ref (mt_adr (kG K) a1)), (2, .int a2), (3, .int a3)] [] (fX5_followsSheet fu σ a1 a2 a3 = some (r, σf)) := by
  unfold fX5_followsSheet
  refine mv_iconst (v := 0) dX5_followsSheet_0 ic_0 ?_
  refine mv_istore (lv' := [(0, .ref (mt_adr (kG K) 0)), (1, .ref (mt_adr (kG K) a1)), (2, .int a2), (3, .int a3), (4, .int (0 : Int32))]) [1, 2, 3, 4, 0] dX5_followsSheet_1 (by decide) rfl ?_
  exact vX5_followsSheet_3 ha1 hQ fu σ a2 a3 (0 : Int32)
theorem co_X5_followsSheet {l : Launch} {G : mt_G} {fu : Nat} {σ : mt_St} {a1 : Nat} {a2 : Int32} {a3 : Int32} {r : Int32} {σf : mt_St} (ha1 : mt_kd a1 = 1) (h : fX5_followsSheet fu σ a1 a2 a3 = some (r, σf)) : mt_Con l G yX5_followsSheet cX5_followsSheet 5 (some .boolean) 4 [.ref (mt_adr G 0), .ref (mt_adr G a1), .int a2, .int a3] σ (some (.int r)) σf :=
  mt_con (by decide) (Nat.le_of_ble_eq_true rfl) (fun K hl hG hQ => by subst hl; subst hG; exact fun _ => vX5_followsSheet ha1 hQ h)
theorem dX5_fitsMark_0 : decode cX5_fitsMark 0 = .ok (.aload_n 0, 1) := by decide +kernel
theorem dX5_fitsMark_1 : decode cX5_fitsMark 1 = .ok (.iload_n 3, 1) := by decide +kernel
theorem dX5_fitsMark_2 : decode cX5_fitsMark 2 = .ok (.invokevirtual 161, 3) := by decide +kernel
theorem dX5_fitsMark_5 : decode cX5_fitsMark 5 = .ok (.aload_n 0, 1) := by decide +kernel
theorem dX5_fitsMark_6 : decode cX5_fitsMark 6 = .ok (.getfield 29, 3) := by decide +kernel
theorem dX5_fitsMark_9 : decode cX5_fitsMark 9 = .ok (.iload 4, 2) := by decide +kernel
theorem dX5_fitsMark_11 : decode cX5_fitsMark 11 = .ok (.putfield 187, 3) := by decide +kernel
theorem dX5_fitsMark_14 : decode cX5_fitsMark 14 = .ok (.aload_n 0, 1) := by decide +kernel
theorem dX5_fitsMark_15 : decode cX5_fitsMark 15 = .ok (.aload_n 1, 1) := by decide +kernel
theorem dX5_fitsMark_16 : decode cX5_fitsMark 16 = .ok (.iload_n 2, 1) := by decide +kernel
theorem dX5_fitsMark_17 : decode cX5_fitsMark 17 = .ok (.iconst 4, 1) := by decide +kernel
theorem dX5_fitsMark_18 : decode cX5_fitsMark 18 = .ok (.invokevirtual 222, 3) := by decide +kernel
theorem dX5_fitsMark_21 : decode cX5_fitsMark 21 = .ok (.ireturn, 1) := by decide +kernel
def fX5_fitsMark (fu : Nat) (σ : mt_St) (a1 : Nat) (a2 : Int32) (a3 : Int32) (a4 : Int32) : Option (Int32 × mt_St) :=
  mt_call (fX5_tryAlone fu σ a3) fun _ s2 =>
  mt_bnd (mt_up s2 37 3 a4) fun s3 =>
  mt_call (fX5_followsSheet fu s3 a1 a2 (4 : Int32)) fun r4 s5 =>
  mt_chk (mt_b01 r4) (some (r4, s5))
set_option maxHeartbeats 4000000 in
set_option maxRecDepth 20000 in
theorem vX5_fitsMark {K : mt_C} {fu : Nat} {σ : mt_St} {a1 : Nat} {a2 : Int32} {a3 : Int32} {a4 : Int32} {r : Int32} {σf : mt_St} (ha1 : mt_kd a1 = 1) (hQ : mt_R K (some .boolean) (some (.int r)) σf) : mt_V K cX5_fitsMark RX5 5 5 σ 0 [(0, .ref (mt_adr (kG K) 0)), (1, .ref (mt_adr (kG K) a1)), (2, .int a2), (3, .int a3), (4, .int a4)] [] (fX5_fitsMark fu σ a1 a2 a3 a4 = some (r, σf)) := by
  unfold fX5_fitsMark
  refine mv_aload_n 0 dX5_fitsMark_0 rfl rfl ?_
  refine mv_iload_n 3 dX5_fitsMark_1 rfl rfl ?_
  refine mv_cVwv (As := [.int a3]) (st := []) cal_X5_tryAlone ins_X5_tryAlone ml_X5_161 rfl (by decide) rfl rfl (by decide) rfl (Nat.le_of_ble_eq_true rfl) dX5_fitsMark_2 (fun r s h => co_X5_tryAlone h) (fun r1 s2 => ?_)
  refine mv_aload_n 0 dX5_fitsMark_5 rfl rfl ?_
  refine mg_X5_4 fl_X5_29 dX5_fitsMark_6 ?_
  refine mv_iload 4 dX5_fitsMark_9 rfl ?_
  refine mp_X3_3 rfl fl_X5_187 dX5_fitsMark_11 (fun s3 => ?_)
  refine mv_aload_n 0 dX5_fitsMark_14 rfl rfl ?_
  refine mv_aload_n 1 dX5_fitsMark_15 rfl rfl ?_
  refine mv_iload_n 2 dX5_fitsMark_16 rfl rfl ?_
  refine mv_iconst (v := 4) dX5_fitsMark_17 ic_4 ?_
  refine mv_cVwi (As := [.ref (mt_adr (kG K) a1), .int a2, .int (4 : Int32)]) (st := []) cal_X5_followsSheet ins_X5_followsSheet ml_X5_222 rfl (by decide) rfl rfl (by decide) rfl (Nat.le_of_ble_eq_true rfl) dX5_fitsMark_18 (fun r s h => co_X5_followsSheet ha1 h) (fun r4 s5 => ?_)
  exact mv_zret hQ dX5_fitsMark_21
theorem co_X5_fitsMark {l : Launch} {G : mt_G} {fu : Nat} {σ : mt_St} {a1 : Nat} {a2 : Int32} {a3 : Int32} {a4 : Int32} {r : Int32} {σf : mt_St} (ha1 : mt_kd a1 = 1) (h : fX5_fitsMark fu σ a1 a2 a3 a4 = some (r, σf)) : mt_Con l G yX5_fitsMark cX5_fitsMark 5 (some .boolean) 5 [.ref (mt_adr G 0), .ref (mt_adr G a1), .int a2, .int a3, .int a4] σ (some (.int r)) σf :=
  mt_con (by decide) (Nat.le_of_ble_eq_true rfl) (fun K hl hG hQ => by subst hl; subst hG; exact fun _ => vX5_fitsMark ha1 hQ h)
theorem dX5_fits_0 : decode cX5_fits 0 = .ok (.aload_n 0, 1) := by decide +kernel
theorem dX5_fits_1 : decode cX5_fits 1 = .ok (.iload_n 1, 1) := by decide +kernel
theorem dX5_fits_2 : decode cX5_fits 2 = .ok (.iload_n 2, 1) := by decide +kernel
theorem dX5_fits_3 : decode cX5_fits 3 = .ok (.invokevirtual 209, 3) := by decide +kernel
theorem dX5_fits_6 : decode cX5_fits 6 = .ok (.istore_n 3, 1) := by decide +kernel
theorem dX5_fits_7 : decode cX5_fits 7 = .ok (.iload_n 3, 1) := by decide +kernel
theorem dX5_fits_8 : decode cX5_fits 8 = .ok (.ifCond .lt 9, 3) := by decide +kernel
theorem dX5_fits_11 : decode cX5_fits 11 = .ok (.aload_n 0, 1) := by decide +kernel
theorem dX5_fits_12 : decode cX5_fits 12 = .ok (.iload_n 3, 1) := by decide +kernel
theorem dX5_fits_13 : decode cX5_fits 13 = .ok (.invokevirtual 71, 3) := by decide +kernel
theorem dX5_fits_16 : decode cX5_fits 16 = .ok (.ireturn, 1) := by decide +kernel
theorem dX5_fits_17 : decode cX5_fits 17 = .ok (.aload_n 0, 1) := by decide +kernel
theorem dX5_fits_18 : decode cX5_fits 18 = .ok (.getfield 59, 3) := by decide +kernel
theorem dX5_fits_21 : decode cX5_fits 21 = .ok (.iload_n 1, 1) := by decide +kernel
theorem dX5_fits_22 : decode cX5_fits 22 = .ok (.aaload, 1) := by decide +kernel
theorem dX5_fits_23 : decode cX5_fits 23 = .ok (.bipush 8, 2) := by decide +kernel
theorem dX5_fits_25 : decode cX5_fits 25 = .ok (.invokevirtual 212, 3) := by decide +kernel
theorem dX5_fits_28 : decode cX5_fits 28 = .ok (.istore 4, 2) := by decide +kernel
theorem dX5_fits_30 : decode cX5_fits 30 = .ok (.aload_n 0, 1) := by decide +kernel
theorem dX5_fits_31 : decode cX5_fits 31 = .ok (.iload 4, 2) := by decide +kernel
theorem dX5_fits_33 : decode cX5_fits 33 = .ok (.invokevirtual 158, 3) := by decide +kernel
theorem dX5_fits_36 : decode cX5_fits 36 = .ok (.aload_n 0, 1) := by decide +kernel
theorem dX5_fits_37 : decode cX5_fits 37 = .ok (.iload_n 2, 1) := by decide +kernel
theorem dX5_fits_38 : decode cX5_fits 38 = .ok (.iload 4, 2) := by decide +kernel
theorem dX5_fits_40 : decode cX5_fits 40 = .ok (.invokevirtual 215, 3) := by decide +kernel
theorem dX5_fits_43 : decode cX5_fits 43 = .ok (.istore 5, 2) := by decide +kernel
theorem dX5_fits_45 : decode cX5_fits 45 = .ok (.iconst 0, 1) := by decide +kernel
theorem dX5_fits_46 : decode cX5_fits 46 = .ok (.istore 6, 2) := by decide +kernel
theorem dX5_fits_48 : decode cX5_fits 48 = .ok (.iconst 0, 1) := by decide +kernel
theorem dX5_fits_49 : decode cX5_fits 49 = .ok (.istore 7, 2) := by decide +kernel
theorem dX5_fits_51 : decode cX5_fits 51 = .ok (.iload 7, 2) := by decide +kernel
theorem dX5_fits_53 : decode cX5_fits 53 = .ok (.iload 5, 2) := by decide +kernel
theorem dX5_fits_55 : decode cX5_fits 55 = .ok (.if_icmp .gt 40, 3) := by decide +kernel
theorem dX5_fits_58 : decode cX5_fits 58 = .ok (.iload 7, 2) := by decide +kernel
theorem dX5_fits_60 : decode cX5_fits 60 = .ok (.iload 5, 2) := by decide +kernel
theorem dX5_fits_62 : decode cX5_fits 62 = .ok (.iconst (-1), 1) := by decide +kernel
theorem dX5_fits_63 : decode cX5_fits 63 = .ok (.ixor, 1) := by decide +kernel
theorem dX5_fits_64 : decode cX5_fits 64 = .ok (.iand, 1) := by decide +kernel
theorem dX5_fits_65 : decode cX5_fits 65 = .ok (.ifCond .ne 24, 3) := by decide +kernel
theorem dX5_fits_68 : decode cX5_fits 68 = .ok (.aload_n 0, 1) := by decide +kernel
theorem dX5_fits_69 : decode cX5_fits 69 = .ok (.aload_n 0, 1) := by decide +kernel
theorem dX5_fits_70 : decode cX5_fits 70 = .ok (.getfield 59, 3) := by decide +kernel
theorem dX5_fits_73 : decode cX5_fits 73 = .ok (.iload_n 1, 1) := by decide +kernel
theorem dX5_fits_74 : decode cX5_fits 74 = .ok (.aaload, 1) := by decide +kernel
theorem dX5_fits_75 : decode cX5_fits 75 = .ok (.iload 4, 2) := by decide +kernel
theorem dX5_fits_77 : decode cX5_fits 77 = .ok (.iload_n 2, 1) := by decide +kernel
theorem dX5_fits_78 : decode cX5_fits 78 = .ok (.iload 7, 2) := by decide +kernel
theorem dX5_fits_80 : decode cX5_fits 80 = .ok (.invokevirtual 218, 3) := by decide +kernel
theorem dX5_fits_83 : decode cX5_fits 83 = .ok (.ifCond .eq 6, 3) := by decide +kernel
theorem dX5_fits_86 : decode cX5_fits 86 = .ok (.iinc 6 1, 3) := by decide +kernel
theorem dX5_fits_89 : decode cX5_fits 89 = .ok (.iinc 7 1, 3) := by decide +kernel
theorem dX5_fits_92 : decode cX5_fits 92 = .ok (.goto (-41), 3) := by decide +kernel
theorem dX5_fits_95 : decode cX5_fits 95 = .ok (.iload 6, 2) := by decide +kernel
theorem dX5_fits_97 : decode cX5_fits 97 = .ok (.bipush 12, 2) := by decide +kernel
theorem dX5_fits_99 : decode cX5_fits 99 = .ok (.iload 5, 2) := by decide +kernel
theorem dX5_fits_101 : decode cX5_fits 101 = .ok (.invokestatic 196, 3) := by decide +kernel
theorem dX5_fits_104 : decode cX5_fits 104 = .ok (.isub, 1) := by decide +kernel
theorem dX5_fits_105 : decode cX5_fits 105 = .ok (.ishl, 1) := by decide +kernel
theorem dX5_fits_106 : decode cX5_fits 106 = .ok (.ireturn, 1) := by decide +kernel
def bX5_fits_89 (fu : Nat) (k51 : mt_St → Int32 → Int32 → Int32 → Int32 → Int32 → Int32 → Option (Int32 × mt_St)) (σ : mt_St) (x1 : Int32) (x2 : Int32) (x4 : Int32) (x5 : Int32) (x6 : Int32) (x7 : Int32) : Option (Int32 × mt_St) :=
  k51 σ x1 x2 x4 x5 x6 (x7 + 1)
set_option maxHeartbeats 4000000 in
set_option maxRecDepth 20000 in
theorem vX5_fits_89 {K : mt_C} {fu : Nat} {r : Int32} {σf : mt_St} (hQ : mt_R K (some .int) (some (.int r)) σf) {k51 : mt_St → Int32 → Int32 → Int32 → Int32 → Int32 → Int32 → Option (Int32 × mt_St)} (hk51 : ∀ (s0 : mt_St) (x1 : Int32) (x2 : Int32) (x4 : Int32) (x5 : Int32) (x6 : Int32) (x7 : Int32), mt_V K cX5_fits RX5 8 6 s0 51 [(0, .ref (mt_adr (kG K) 0)), (1, .int x1), (2, .int x2), (4, .int x4), (5, .int x5), (6, .int x6), (7, .int x7)] [] (k51 s0 x1 x2 x4 x5 x6 x7 = some (r, σf))) : ∀ (σ : mt_St) (x1 : Int32) (x2 : Int32) (x4 : Int32) (x5 : Int32) (x6 : Int32) (x7 : Int32), mt_V K cX5_fits RX5 8 6 σ 89 [(0, .ref (mt_adr (kG K) 0)), (1, .int x1), (2, .int x2), (4, .int x4), (5, .int x5), (6, .int x6), (7, .int x7)] [] (bX5_fits_89 fu k51 σ x1 x2 x4 x5 x6 x7 = some (r, σf)) := by
  intro σ x1 x2 x4 x5 x6 x7
  unfold bX5_fits_89
  refine mv_iinc (k0 := 6) (v := x7 + 1) (lv' := [(0, .ref (mt_adr (kG K) 0)), (1, .int x1), (2, .int x2), (4, .int x4), (5, .int x5), (6, .int x6), (7, .int (x7 + 1))]) [1, 2, 3, 4, 5, 6, 0] dX5_fits_89 rfl (mt_inc ic_1) (by decide) rfl ?_
  refine mv_goto 51 dX5_fits_92 (by decide) ?_
  exact hk51 σ x1 x2 x4 x5 x6 (x7 + 1)
def bX5_fits_51 (fu : Nat) : Nat → mt_St → Int32 → Int32 → Int32 → Int32 → Int32 → Int32 → Option (Int32 × mt_St)
  | 0, _, _, _, _, _, _, _ => none
  | n + 1, σ, x1, x2, x4, x5, x6, x7 =>
    if x5 < x7 then
      mt_ask (fJ6_bitCount_0f7a4 fu x5) fun r1 =>
      some ((x6 <<< (((12 : Int32) - r1) &&& 31)), σ)
    else
      if (x7 &&& (x5 ^^^ (-1 : Int32))) = 0 then
        mt_chk (mt_in x1 4) <|
        mt_call (fX5_fitsMark fu σ (46 + 1 + Int32.toNatClampNeg x1) x4 x2 x7) fun r3 s4 =>
        if r3 = 0 then
          bX5_fits_89 fu (fun s0 x1 x2 x4 x5 x6 x7 => bX5_fits_51 fu n s0 x1 x2 x4 x5 x6 x7) s4 x1 x2 x4 x5 x6 x7
        else
          bX5_fits_89 fu (fun s0 x1 x2 x4 x5 x6 x7 => bX5_fits_51 fu n s0 x1 x2 x4 x5 x6 x7) s4 x1 x2 x4 x5 (x6 + 1) x7
      else
        bX5_fits_89 fu (fun s0 x1 x2 x4 x5 x6 x7 => bX5_fits_51 fu n s0 x1 x2 x4 x5 x6 x7) σ x1 x2 x4 x5 x6 x7
set_option maxHeartbeats 4000000 in
set_option maxRecDepth 20000 in
theorem vX5_fits_51 {K : mt_C} {fu : Nat} {r : Int32} {σf : mt_St} (hQ : mt_R K (some .int) (some (.int r)) σf) : ∀ (n : Nat) (σ : mt_St) (x1 : Int32) (x2 : Int32) (x4 : Int32) (x5 : Int32) (x6 : Int32) (x7 : Int32), mt_V K cX5_fits RX5 8 6 σ 51 [(0, .ref (mt_adr (kG K) 0)), (1, .int x1), (2, .int x2), (4, .int x4), (5, .int x5), (6, .int x6), (7, .int x7)] [] (bX5_fits_51 fu n σ x1 x2 x4 x5 x6 x7 = some (r, σf)) := by
  intro n
  induction n with
  | zero => intro σ x1 x2 x4 x5 x6 x7; intro hP; unfold bX5_fits_51 at hP; cases hP
  | succ n ih =>
    intro σ x1 x2 x4 x5 x6 x7
    unfold bX5_fits_51
    refine mv_iload 6 dX5_fits_51 rfl ?_
    refine mv_iload 4 dX5_fits_53 rfl ?_
    refine mv_icmp_gt 95 dX5_fits_55 (by decide) ?_ ?_
    · refine mv_iload 5 dX5_fits_95 rfl ?_
      refine mv_bipush (v := 12) dX5_fits_97 bp_12 ?_
      refine mv_iload 4 dX5_fits_99 rfl ?_
      refine mv_cSri (As := [.int x5]) (st := [.int (12 : Int32), .int x6]) cal_J6_bitCount_0f7a4 sta_J6_bitCount_0f7a4 ml_X5_196 rfl (by decide) rfl (Nat.le_of_ble_eq_true rfl) dX5_fits_101 (fun r h => co_J6_bitCount_0f7a4 h) (fun r1 => ?_)
      refine mv_isub dX5_fits_104 ?_
      refine mv_ishl dX5_fits_105 ?_
      exact mv_iret hQ dX5_fits_106
    · refine mv_iload 6 dX5_fits_58 rfl ?_
      refine mv_iload 4 dX5_fits_60 rfl ?_
      refine mv_iconst (v := -1) dX5_fits_62 ic_m1 ?_
      refine mv_ixor dX5_fits_63 ?_
      refine mv_iand dX5_fits_64 ?_
      refine mv_if_ne 89 dX5_fits_65 (by decide) ?_ ?_
      · exact vX5_fits_89 hQ (fun s0 x1 x2 x4 x5 x6 x7 => ih s0 x1 x2 x4 x5 x6 x7) σ x1 x2 x4 x5 x6 x7
      · refine mv_aload_n 0 dX5_fits_68 rfl rfl ?_
        refine mv_aload_n 0 dX5_fits_69 rfl rfl ?_
        refine mg_X5_10 fl_X5_59 dX5_fits_70 ?_
        refine mv_iload_n 1 dX5_fits_73 rfl rfl ?_
        refine mv_aaldS rfl rfl dX5_fits_74 (fun h2 => ?_)
        refine mv_iload 3 dX5_fits_75 rfl ?_
        refine mv_iload_n 2 dX5_fits_77 rfl rfl ?_
        refine mv_iload 6 dX5_fits_78 rfl ?_
        refine mv_cVwi (As := [.ref (mt_adr (kG K) (46 + 1 + Int32.toNatClampNeg x1)), .int x4, .int x2, .int x7]) (st := []) cal_X5_fitsMark ins_X5_fitsMark ml_X5_218 rfl (by decide) rfl rfl (by decide) rfl (Nat.le_of_ble_eq_true rfl) dX5_fits_80 (fun r s h => co_X5_fitsMark (kd_st rfl h2) h) (fun r3 s4 => ?_)
        refine mv_if_eq 89 dX5_fits_83 (by decide) ?_ ?_
        · exact vX5_fits_89 hQ (fun s0 x1 x2 x4 x5 x6 x7 => ih s0 x1 x2 x4 x5 x6 x7) s4 x1 x2 x4 x5 x6 x7
        · refine mv_iinc (k0 := 5) (v := x6 + 1) (lv' := [(0, .ref (mt_adr (kG K) 0)), (1, .int x1), (2, .int x2), (4, .int x4), (5, .int x5), (6, .int (x6 + 1)), (7, .int x7)]) [1, 2, 3, 4, 5, 0, 6] dX5_fits_86 rfl (mt_inc ic_1) (by decide) rfl ?_
          exact vX5_fits_89 hQ (fun s0 x1 x2 x4 x5 x6 x7 => ih s0 x1 x2 x4 x5 x6 x7) s4 x1 x2 x4 x5 (x6 + 1) x7
def fX5_fits (fu : Nat) (σ : mt_St) (a1 : Int32) (a2 : Int32) : Option (Int32 × mt_St) :=
  mt_ask (fX5_faultOfSheetAndTreaty fu σ a1 a2) fun r1 =>
  if r1 < 0 then
    mt_chk (mt_in a1 4) <|
    mt_ask (fX1_lastTold fu σ (46 + 1 + Int32.toNatClampNeg a1) (8 : Int32)) fun r3 =>
    mt_call (fX5_foreseeUps fu σ r3) fun _ s5 =>
    mt_call (fX5_figuresWeighing fu s5 a2 r3) fun r6 s7 =>
    bX5_fits_51 fu fu s7 a1 a2 r3 r6 (0 : Int32) (0 : Int32)
  else
    mt_call (fX5_finding fu σ r1) fun r8 s9 =>
    some (r8, s9)
set_option maxHeartbeats 4000000 in
set_option maxRecDepth 20000 in
theorem vX5_fits {K : mt_C} {fu : Nat} {σ : mt_St} {a1 : Int32} {a2 : Int32} {r : Int32} {σf : mt_St} (hQ : mt_R K (some .int) (some (.int r)) σf) : mt_V K cX5_fits RX5 8 6 σ 0 [(0, .ref (mt_adr (kG K) 0)), (1, .int a1), (2, .int a2)] [] (fX5_fits fu σ a1 a2 = some (r, σf)) := by
  unfold fX5_fits
  refine mv_aload_n 0 dX5_fits_0 rfl rfl ?_
  refine mv_iload_n 1 dX5_fits_1 rfl rfl ?_
  refine mv_iload_n 2 dX5_fits_2 rfl rfl ?_
  refine mv_cVri (As := [.int a1, .int a2]) (st := []) cal_X5_faultOfSheetAndTreaty ins_X5_faultOfSheetAndTreaty ml_X5_209 rfl (by decide) rfl rfl (by decide) rfl (Nat.le_of_ble_eq_true rfl) dX5_fits_3 (fun r h => co_X5_faultOfSheetAndTreaty h) (fun r1 => ?_)
  refine mv_istore_n (lv' := [(0, .ref (mt_adr (kG K) 0)), (1, .int a1), (2, .int a2), (3, .int r1)]) [1, 2, 3, 0] dX5_fits_6 rfl (by decide) rfl ?_
  refine mv_iload_n 3 dX5_fits_7 rfl rfl ?_
  refine mv_if_lt 17 dX5_fits_8 (by decide) ?_ ?_
  · refine mv_aload_n 0 dX5_fits_17 rfl rfl ?_
    refine mg_X5_10 fl_X5_59 dX5_fits_18 ?_
    refine mv_iload_n 1 dX5_fits_21 rfl rfl ?_
    refine mv_aaldS rfl rfl dX5_fits_22 (fun h2 => ?_)
    refine mv_bipush (v := 8) dX5_fits_23 bp_8 ?_
    refine mv_cVri (As := [.int (8 : Int32)]) (st := []) cal_X1_lastTold ins_X1_lastTold ml_X5_212 (kd_st rfl h2) (by decide) rfl rfl (by decide) rfl (Nat.le_of_ble_eq_true rfl) dX5_fits_25 (fun r h => co_X1_lastTold (kd_st rfl h2) h) (fun r3 => ?_)
    refine mv_istore (lv' := [(0, .ref (mt_adr (kG K) 0)), (1, .int a1), (2, .int a2), (4, .int r3)]) [1, 2, 3, 0] dX5_fits_28 (by decide) rfl ?_
    refine mv_aload_n 0 dX5_fits_30 rfl rfl ?_
    refine mv_iload 3 dX5_fits_31 rfl ?_
    refine mv_cVwv (As := [.int r3]) (st := []) cal_X5_foreseeUps ins_X5_foreseeUps ml_X5_158 rfl (by decide) rfl rfl (by decide) rfl (Nat.le_of_ble_eq_true rfl) dX5_fits_33 (fun r s h => co_X5_foreseeUps h) (fun r4 s5 => ?_)
    refine mv_aload_n 0 dX5_fits_36 rfl rfl ?_
    refine mv_iload_n 2 dX5_fits_37 rfl rfl ?_
    refine mv_iload 3 dX5_fits_38 rfl ?_
    refine mv_cVwi (As := [.int a2, .int r3]) (st := []) cal_X5_figuresWeighing ins_X5_figuresWeighing ml_X5_215 rfl (by decide) rfl rfl (by decide) rfl (Nat.le_of_ble_eq_true rfl) dX5_fits_40 (fun r s h => co_X5_figuresWeighing h) (fun r6 s7 => ?_)
    refine mv_istore (lv' := [(0, .ref (mt_adr (kG K) 0)), (1, .int a1), (2, .int a2), (4, .int r3), (5, .int r6)]) [1, 2, 3, 4, 0] dX5_fits_43 (by decide) rfl ?_
    refine mv_iconst (v := 0) dX5_fits_45 ic_0 ?_
    refine mv_istore (lv' := [(0, .ref (mt_adr (kG K) 0)), (1, .int a1), (2, .int a2), (4, .int r3), (5, .int r6), (6, .int (0 : Int32))]) [1, 2, 3, 4, 5, 0] dX5_fits_46 (by decide) rfl ?_
    refine mv_iconst (v := 0) dX5_fits_48 ic_0 ?_
    refine mv_istore (lv' := [(0, .ref (mt_adr (kG K) 0)), (1, .int a1), (2, .int a2), (4, .int r3), (5, .int r6), (6, .int (0 : Int32)), (7, .int (0 : Int32))]) [1, 2, 3, 4, 5, 6, 0] dX5_fits_49 (by decide) rfl ?_
    exact vX5_fits_51 hQ fu s7 a1 a2 r3 r6 (0 : Int32) (0 : Int32)
  · refine mv_aload_n 0 dX5_fits_11 rfl rfl ?_
    refine mv_iload_n 3 dX5_fits_12 rfl rfl ?_
    refine mv_cVwi (As := [.int r1]) (st := []) cal_X5_finding ins_X5_finding ml_X5_71 rfl (by decide) rfl rfl (by decide) rfl (Nat.le_of_ble_eq_true rfl) dX5_fits_13 (fun r s h => co_X5_finding h) (fun r8 s9 => ?_)
    exact mv_iret hQ dX5_fits_16
theorem co_X5_fits {l : Launch} {G : mt_G} {fu : Nat} {σ : mt_St} {a1 : Int32} {a2 : Int32} {r : Int32} {σf : mt_St}  (h : fX5_fits fu σ a1 a2 = some (r, σf)) : mt_Con l G yX5_fits cX5_fits 8 (some .int) 6 [.ref (mt_adr G 0), .int a1, .int a2] σ (some (.int r)) σf :=
  mt_con (by decide) (Nat.le_of_ble_eq_true rfl) (fun K hl hG hQ => by subst hl; subst hG; exact fun _ => vX5_fits  hQ h)
theorem dX5_kinds_0 : decode cX5_kinds 0 = .ok (.aload_n 0, 1) := by decide +kernel
theorem dX5_kinds_1 : decode cX5_kinds 1 = .ok (.iload_n 1, 1) := by decide +kernel
theorem dX5_kinds_2 : decode cX5_kinds 2 = .ok (.iload_n 2, 1) := by decide +kernel
theorem dX5_kinds_3 : decode cX5_kinds 3 = .ok (.invokevirtual 209, 3) := by decide +kernel
theorem dX5_kinds_6 : decode cX5_kinds 6 = .ok (.istore_n 3, 1) := by decide +kernel
theorem dX5_kinds_7 : decode cX5_kinds 7 = .ok (.iload_n 3, 1) := by decide +kernel
theorem dX5_kinds_8 : decode cX5_kinds 8 = .ok (.ifCond .lt 9, 3) := by decide +kernel
theorem dX5_kinds_11 : decode cX5_kinds 11 = .ok (.aload_n 0, 1) := by decide +kernel
theorem dX5_kinds_12 : decode cX5_kinds 12 = .ok (.iload_n 3, 1) := by decide +kernel
theorem dX5_kinds_13 : decode cX5_kinds 13 = .ok (.invokevirtual 71, 3) := by decide +kernel
theorem dX5_kinds_16 : decode cX5_kinds 16 = .ok (.ireturn, 1) := by decide +kernel
theorem dX5_kinds_17 : decode cX5_kinds 17 = .ok (.aload_n 0, 1) := by decide +kernel
theorem dX5_kinds_18 : decode cX5_kinds 18 = .ok (.getfield 59, 3) := by decide +kernel
theorem dX5_kinds_21 : decode cX5_kinds 21 = .ok (.iload_n 1, 1) := by decide +kernel
theorem dX5_kinds_22 : decode cX5_kinds 22 = .ok (.aaload, 1) := by decide +kernel
theorem dX5_kinds_23 : decode cX5_kinds 23 = .ok (.bipush 40, 2) := by decide +kernel
theorem dX5_kinds_25 : decode cX5_kinds 25 = .ok (.invokevirtual 212, 3) := by decide +kernel
theorem dX5_kinds_28 : decode cX5_kinds 28 = .ok (.istore 4, 2) := by decide +kernel
theorem dX5_kinds_30 : decode cX5_kinds 30 = .ok (.aload_n 0, 1) := by decide +kernel
theorem dX5_kinds_31 : decode cX5_kinds 31 = .ok (.iload 4, 2) := by decide +kernel
theorem dX5_kinds_33 : decode cX5_kinds 33 = .ok (.invokevirtual 158, 3) := by decide +kernel
theorem dX5_kinds_36 : decode cX5_kinds 36 = .ok (.iconst 0, 1) := by decide +kernel
theorem dX5_kinds_37 : decode cX5_kinds 37 = .ok (.istore 5, 2) := by decide +kernel
theorem dX5_kinds_39 : decode cX5_kinds 39 = .ok (.iconst 0, 1) := by decide +kernel
theorem dX5_kinds_40 : decode cX5_kinds 40 = .ok (.istore 6, 2) := by decide +kernel
theorem dX5_kinds_42 : decode cX5_kinds 42 = .ok (.iload 6, 2) := by decide +kernel
theorem dX5_kinds_44 : decode cX5_kinds 44 = .ok (.bipush 7, 2) := by decide +kernel
theorem dX5_kinds_46 : decode cX5_kinds 46 = .ok (.if_icmp .ge 48, 3) := by decide +kernel
theorem dX5_kinds_49 : decode cX5_kinds 49 = .ok (.aload_n 0, 1) := by decide +kernel
theorem dX5_kinds_50 : decode cX5_kinds 50 = .ok (.iload_n 2, 1) := by decide +kernel
theorem dX5_kinds_51 : decode cX5_kinds 51 = .ok (.invokevirtual 161, 3) := by decide +kernel
theorem dX5_kinds_54 : decode cX5_kinds 54 = .ok (.aload_n 0, 1) := by decide +kernel
theorem dX5_kinds_55 : decode cX5_kinds 55 = .ok (.getfield 29, 3) := by decide +kernel
theorem dX5_kinds_58 : decode cX5_kinds 58 = .ok (.iload 6, 2) := by decide +kernel
theorem dX5_kinds_60 : decode cX5_kinds 60 = .ok (.putfield 184, 3) := by decide +kernel
theorem dX5_kinds_63 : decode cX5_kinds 63 = .ok (.aload_n 0, 1) := by decide +kernel
theorem dX5_kinds_64 : decode cX5_kinds 64 = .ok (.aload_n 0, 1) := by decide +kernel
theorem dX5_kinds_65 : decode cX5_kinds 65 = .ok (.getfield 59, 3) := by decide +kernel
theorem dX5_kinds_68 : decode cX5_kinds 68 = .ok (.iload_n 1, 1) := by decide +kernel
theorem dX5_kinds_69 : decode cX5_kinds 69 = .ok (.aaload, 1) := by decide +kernel
theorem dX5_kinds_70 : decode cX5_kinds 70 = .ok (.iload 4, 2) := by decide +kernel
theorem dX5_kinds_72 : decode cX5_kinds 72 = .ok (.iconst 3, 1) := by decide +kernel
theorem dX5_kinds_73 : decode cX5_kinds 73 = .ok (.invokevirtual 222, 3) := by decide +kernel
theorem dX5_kinds_76 : decode cX5_kinds 76 = .ok (.ifCond .eq 12, 3) := by decide +kernel
theorem dX5_kinds_79 : decode cX5_kinds 79 = .ok (.iload 5, 2) := by decide +kernel
theorem dX5_kinds_81 : decode cX5_kinds 81 = .ok (.iconst 1, 1) := by decide +kernel
theorem dX5_kinds_82 : decode cX5_kinds 82 = .ok (.iload 6, 2) := by decide +kernel
theorem dX5_kinds_84 : decode cX5_kinds 84 = .ok (.ishl, 1) := by decide +kernel
theorem dX5_kinds_85 : decode cX5_kinds 85 = .ok (.ior, 1) := by decide +kernel
theorem dX5_kinds_86 : decode cX5_kinds 86 = .ok (.istore 5, 2) := by decide +kernel
theorem dX5_kinds_88 : decode cX5_kinds 88 = .ok (.iinc 6 1, 3) := by decide +kernel
theorem dX5_kinds_91 : decode cX5_kinds 91 = .ok (.goto (-49), 3) := by decide +kernel
theorem dX5_kinds_94 : decode cX5_kinds 94 = .ok (.iload 5, 2) := by decide +kernel
theorem dX5_kinds_96 : decode cX5_kinds 96 = .ok (.ireturn, 1) := by decide +kernel
def bX5_kinds_88 (fu : Nat) (k42 : mt_St → Int32 → Int32 → Int32 → Int32 → Int32 → Option (Int32 × mt_St)) (σ : mt_St) (x1 : Int32) (x2 : Int32) (x4 : Int32) (x5 : Int32) (x6 : Int32) : Option (Int32 × mt_St) :=
  k42 σ x1 x2 x4 x5 (x6 + 1)
set_option maxHeartbeats 4000000 in
set_option maxRecDepth 20000 in
theorem vX5_kinds_88 {K : mt_C} {fu : Nat} {r : Int32} {σf : mt_St} (hQ : mt_R K (some .int) (some (.int r)) σf) {k42 : mt_St → Int32 → Int32 → Int32 → Int32 → Int32 → Option (Int32 × mt_St)} (hk42 : ∀ (s0 : mt_St) (x1 : Int32) (x2 : Int32) (x4 : Int32) (x5 : Int32) (x6 : Int32), mt_V K cX5_kinds RX5 7 5 s0 42 [(0, .ref (mt_adr (kG K) 0)), (1, .int x1), (2, .int x2), (4, .int x4), (5, .int x5), (6, .int x6)] [] (k42 s0 x1 x2 x4 x5 x6 = some (r, σf))) : ∀ (σ : mt_St) (x1 : Int32) (x2 : Int32) (x4 : Int32) (x5 : Int32) (x6 : Int32), mt_V K cX5_kinds RX5 7 5 σ 88 [(0, .ref (mt_adr (kG K) 0)), (1, .int x1), (2, .int x2), (4, .int x4), (5, .int x5), (6, .int x6)] [] (bX5_kinds_88 fu k42 σ x1 x2 x4 x5 x6 = some (r, σf)) := by
  intro σ x1 x2 x4 x5 x6
  unfold bX5_kinds_88
  refine mv_iinc (k0 := 5) (v := x6 + 1) (lv' := [(0, .ref (mt_adr (kG K) 0)), (1, .int x1), (2, .int x2), (4, .int x4), (5, .int x5), (6, .int (x6 + 1))]) [1, 2, 3, 4, 5, 0] dX5_kinds_88 rfl (mt_inc ic_1) (by decide) rfl ?_
  refine mv_goto 42 dX5_kinds_91 (by decide) ?_
  exact hk42 σ x1 x2 x4 x5 (x6 + 1)
def bX5_kinds_42 (fu : Nat) : Nat → mt_St → Int32 → Int32 → Int32 → Int32 → Int32 → Option (Int32 × mt_St)
  | 0, _, _, _, _, _, _ => none
  | n + 1, σ, x1, x2, x4, x5, x6 =>
    if (7 : Int32) ≤ x6 then
      some (x5, σ)
    else
      mt_call (fX5_tryAlone fu σ x2) fun _ s2 =>
      mt_bnd (mt_up s2 37 0 x6) fun s3 =>
      mt_chk (mt_in x1 4) <|
      mt_call (fX5_followsSheet fu s3 (46 + 1 + Int32.toNatClampNeg x1) x4 (3 : Int32)) fun r5 s6 =>
      if r5 = 0 then
        bX5_kinds_88 fu (fun s0 x1 x2 x4 x5 x6 => bX5_kinds_42 fu n s0 x1 x2 x4 x5 x6) s6 x1 x2 x4 x5 x6
      else
        bX5_kinds_88 fu (fun s0 x1 x2 x4 x5 x6 => bX5_kinds_42 fu n s0 x1 x2 x4 x5 x6) s6 x1 x2 x4 (x5 ||| ((1 : Int32) <<< (x6 &&& 31))) x6
set_option maxHeartbeats 4000000 in
set_option maxRecDepth 20000 in
theorem vX5_kinds_42 {K : mt_C} {fu : Nat} {r : Int32} {σf : mt_St} (hQ : mt_R K (some .int) (some (.int r)) σf) : ∀ (n : Nat) (σ : mt_St) (x1 : Int32) (x2 : Int32) (x4 : Int32) (x5 : Int32) (x6 : Int32), mt_V K cX5_kinds RX5 7 5 σ 42 [(0, .ref (mt_adr (kG K) 0)), (1, .int x1), (2, .int x2), (4, .int x4), (5, .int x5), (6, .int x6)] [] (bX5_kinds_42 fu n σ x1 x2 x4 x5 x6 = some (r, σf)) := by
  intro n
  induction n with
  | zero => intro σ x1 x2 x4 x5 x6; intro hP; unfold bX5_kinds_42 at hP; cases hP
  | succ n ih =>
    intro σ x1 x2 x4 x5 x6
    unfold bX5_kinds_42
    refine mv_iload 5 dX5_kinds_42 rfl ?_
    refine mv_bipush (v := 7) dX5_kinds_44 bp_7 ?_
    refine mv_icmp_ge 94 dX5_kinds_46 (by decide) ?_ ?_
    · refine mv_iload 4 dX5_kinds_94 rfl ?_
      exact mv_iret hQ dX5_kinds_96
    · refine mv_aload_n 0 dX5_kinds_49 rfl rfl ?_
      refine mv_iload_n 2 dX5_kinds_50 rfl rfl ?_
      refine mv_cVwv (As := [.int x2]) (st := []) cal_X5_tryAlone ins_X5_tryAlone ml_X5_161 rfl (by decide) rfl rfl (by decide) rfl (Nat.le_of_ble_eq_true rfl) dX5_kinds_51 (fun r s h => co_X5_tryAlone h) (fun r1 s2 => ?_)
      refine mv_aload_n 0 dX5_kinds_54 rfl rfl ?_
      refine mg_X5_4 fl_X5_29 dX5_kinds_55 ?_
      refine mv_iload 5 dX5_kinds_58 rfl ?_
      refine mp_X3_0 rfl fl_X5_184 dX5_kinds_60 (fun s3 => ?_)
      refine mv_aload_n 0 dX5_kinds_63 rfl rfl ?_
      refine mv_aload_n 0 dX5_kinds_64 rfl rfl ?_
      refine mg_X5_10 fl_X5_59 dX5_kinds_65 ?_
      refine mv_iload_n 1 dX5_kinds_68 rfl rfl ?_
      refine mv_aaldS rfl rfl dX5_kinds_69 (fun h4 => ?_)
      refine mv_iload 3 dX5_kinds_70 rfl ?_
      refine mv_iconst (v := 3) dX5_kinds_72 ic_3 ?_
      refine mv_cVwi (As := [.ref (mt_adr (kG K) (46 + 1 + Int32.toNatClampNeg x1)), .int x4, .int (3 : Int32)]) (st := []) cal_X5_followsSheet ins_X5_followsSheet ml_X5_222 rfl (by decide) rfl rfl (by decide) rfl (Nat.le_of_ble_eq_true rfl) dX5_kinds_73 (fun r s h => co_X5_followsSheet (kd_st rfl h4) h) (fun r5 s6 => ?_)
      refine mv_if_eq 88 dX5_kinds_76 (by decide) ?_ ?_
      · exact vX5_kinds_88 hQ (fun s0 x1 x2 x4 x5 x6 => ih s0 x1 x2 x4 x5 x6) s6 x1 x2 x4 x5 x6
      · refine mv_iload 4 dX5_kinds_79 rfl ?_
        refine mv_iconst (v := 1) dX5_kinds_81 ic_1 ?_
        refine mv_iload 5 dX5_kinds_82 rfl ?_
        refine mv_ishl dX5_kinds_84 ?_
        refine mv_ior dX5_kinds_85 ?_
        refine mv_istore (lv' := [(0, .ref (mt_adr (kG K) 0)), (1, .int x1), (2, .int x2), (4, .int x4), (5, .int (x5 ||| ((1 : Int32) <<< (x6 &&& 31)))), (6, .int x6)]) [1, 2, 3, 4, 0, 5] dX5_kinds_86 (by decide) rfl ?_
        exact vX5_kinds_88 hQ (fun s0 x1 x2 x4 x5 x6 => ih s0 x1 x2 x4 x5 x6) s6 x1 x2 x4 (x5 ||| ((1 : Int32) <<< (x6 &&& 31))) x6
def fX5_kinds (fu : Nat) (σ : mt_St) (a1 : Int32) (a2 : Int32) : Option (Int32 × mt_St) :=
  mt_ask (fX5_faultOfSheetAndTreaty fu σ a1 a2) fun r1 =>
  if r1 < 0 then
    mt_chk (mt_in a1 4) <|
    mt_ask (fX1_lastTold fu σ (46 + 1 + Int32.toNatClampNeg a1) (40 : Int32)) fun r3 =>
    mt_call (fX5_foreseeUps fu σ r3) fun _ s5 =>
    bX5_kinds_42 fu fu s5 a1 a2 r3 (0 : Int32) (0 : Int32)
  else
    mt_call (fX5_finding fu σ r1) fun r6 s7 =>
    some (r6, s7)
set_option maxHeartbeats 4000000 in
set_option maxRecDepth 20000 in
theorem vX5_kinds {K : mt_C} {fu : Nat} {σ : mt_St} {a1 : Int32} {a2 : Int32} {r : Int32} {σf : mt_St} (hQ : mt_R K (some .int) (some (.int r)) σf) : mt_V K cX5_kinds RX5 7 5 σ 0 [(0, .ref (mt_adr (kG K) 0)), (1, .int a1), (2, .int a2)] [] (fX5_kinds fu σ a1 a2 = some (r, σf)) := by
  unfold fX5_kinds
  refine mv_aload_n 0 dX5_kinds_0 rfl rfl ?_
  refine mv_iload_n 1 dX5_kinds_1 rfl rfl ?_
  refine mv_iload_n 2 dX5_kinds_2 rfl rfl ?_
  refine mv_cVri (As := [.int a1, .int a2]) (st := []) cal_X5_faultOfSheetAndTreaty ins_X5_faultOfSheetAndTreaty ml_X5_209 rfl (by decide) rfl rfl (by decide) rfl (Nat.le_of_ble_eq_true rfl) dX5_kinds_3 (fun r h => co_X5_faultOfSheetAndTreaty h) (fun r1 => ?_)
  refine mv_istore_n (lv' := [(0, .ref (mt_adr (kG K) 0)), (1, .int a1), (2, .int a2), (3, .int r1)]) [1, 2, 3, 0] dX5_kinds_6 rfl (by decide) rfl ?_
  refine mv_iload_n 3 dX5_kinds_7 rfl rfl ?_
  refine mv_if_lt 17 dX5_kinds_8 (by decide) ?_ ?_
  · refine mv_aload_n 0 dX5_kinds_17 rfl rfl ?_
    refine mg_X5_10 fl_X5_59 dX5_kinds_18 ?_
    refine mv_iload_n 1 dX5_kinds_21 rfl rfl ?_
    refine mv_aaldS rfl rfl dX5_kinds_22 (fun h2 => ?_)
    refine mv_bipush (v := 40) dX5_kinds_23 bp_40 ?_
    refine mv_cVri (As := [.int (40 : Int32)]) (st := []) cal_X1_lastTold ins_X1_lastTold ml_X5_212 (kd_st rfl h2) (by decide) rfl rfl (by decide) rfl (Nat.le_of_ble_eq_true rfl) dX5_kinds_25 (fun r h => co_X1_lastTold (kd_st rfl h2) h) (fun r3 => ?_)
    refine mv_istore (lv' := [(0, .ref (mt_adr (kG K) 0)), (1, .int a1), (2, .int a2), (4, .int r3)]) [1, 2, 3, 0] dX5_kinds_28 (by decide) rfl ?_
    refine mv_aload_n 0 dX5_kinds_30 rfl rfl ?_
    refine mv_iload 3 dX5_kinds_31 rfl ?_
    refine mv_cVwv (As := [.int r3]) (st := []) cal_X5_foreseeUps ins_X5_foreseeUps ml_X5_158 rfl (by decide) rfl rfl (by decide) rfl (Nat.le_of_ble_eq_true rfl) dX5_kinds_33 (fun r s h => co_X5_foreseeUps h) (fun r4 s5 => ?_)
    refine mv_iconst (v := 0) dX5_kinds_36 ic_0 ?_
    refine mv_istore (lv' := [(0, .ref (mt_adr (kG K) 0)), (1, .int a1), (2, .int a2), (4, .int r3), (5, .int (0 : Int32))]) [1, 2, 3, 4, 0] dX5_kinds_37 (by decide) rfl ?_
    refine mv_iconst (v := 0) dX5_kinds_39 ic_0 ?_
    refine mv_istore (lv' := [(0, .ref (mt_adr (kG K) 0)), (1, .int a1), (2, .int a2), (4, .int r3), (5, .int (0 : Int32)), (6, .int (0 : Int32))]) [1, 2, 3, 4, 5, 0] dX5_kinds_40 (by decide) rfl ?_
    exact vX5_kinds_42 hQ fu s5 a1 a2 r3 (0 : Int32) (0 : Int32)
  · refine mv_aload_n 0 dX5_kinds_11 rfl rfl ?_
    refine mv_iload_n 3 dX5_kinds_12 rfl rfl ?_
    refine mv_cVwi (As := [.int r1]) (st := []) cal_X5_finding ins_X5_finding ml_X5_71 rfl (by decide) rfl rfl (by decide) rfl (Nat.le_of_ble_eq_true rfl) dX5_kinds_13 (fun r s h => co_X5_finding h) (fun r6 s7 => ?_)
    exact mv_iret hQ dX5_kinds_16
theorem co_X5_kinds {l : Launch} {G : mt_G} {fu : Nat} {σ : mt_St} {a1 : Int32} {a2 : Int32} {r : Int32} {σf : mt_St}  (h : fX5_kinds fu σ a1 a2 = some (r, σf)) : mt_Con l G yX5_kinds cX5_kinds 7 (some .int) 5 [.ref (mt_adr G 0), .int a1, .int a2] σ (some (.int r)) σf :=
  mt_con (by decide) (Nat.le_of_ble_eq_true rfl) (fun K hl hG hQ => by subst hl; subst hG; exact fun _ => vX5_kinds  hQ h)
theorem dX5_wakings_0 : decode cX5_wakings 0 = .ok (.iload_n 1, 1) := by decide +kernel
theorem dX5_wakings_1 : decode cX5_wakings 1 = .ok (.iconst 1, 1) := by decide +kernel
theorem dX5_wakings_2 : decode cX5_wakings 2 = .ok (.if_icmp .lt 9, 3) := by decide +kernel
theorem dX5_wakings_5 : decode cX5_wakings 5 = .ok (.iload_n 1, 1) := by decide +kernel
theorem dX5_wakings_6 : decode cX5_wakings 6 = .ok (.bipush 20, 2) := by decide +kernel
theorem dX5_wakings_8 : decode cX5_wakings 8 = .ok (.if_icmp .le 9, 3) := by decide +kernel
theorem dX5_wakings_11 : decode cX5_wakings 11 = .ok (.aload_n 0, 1) := by decide +kernel
theorem dX5_wakings_12 : decode cX5_wakings 12 = .ok (.iconst 0, 1) := by decide +kernel
theorem dX5_wakings_13 : decode cX5_wakings 13 = .ok (.invokevirtual 71, 3) := by decide +kernel
theorem dX5_wakings_16 : decode cX5_wakings 16 = .ok (.ireturn, 1) := by decide +kernel
theorem dX5_wakings_17 : decode cX5_wakings 17 = .ok (.aload_n 0, 1) := by decide +kernel
theorem dX5_wakings_18 : decode cX5_wakings 18 = .ok (.getfield 10, 3) := by decide +kernel
theorem dX5_wakings_21 : decode cX5_wakings 21 = .ok (.getfield 125, 3) := by decide +kernel
theorem dX5_wakings_24 : decode cX5_wakings 24 = .ok (.iload_n 1, 1) := by decide +kernel
theorem dX5_wakings_25 : decode cX5_wakings 25 = .ok (.iadd, 1) := by decide +kernel
theorem dX5_wakings_26 : decode cX5_wakings 26 = .ok (.ldc 128, 2) := by decide +kernel
theorem dX5_wakings_28 : decode cX5_wakings 28 = .ok (.if_icmp .le 9, 3) := by decide +kernel
theorem dX5_wakings_31 : decode cX5_wakings 31 = .ok (.aload_n 0, 1) := by decide +kernel
theorem dX5_wakings_32 : decode cX5_wakings 32 = .ok (.iconst 4, 1) := by decide +kernel
theorem dX5_wakings_33 : decode cX5_wakings 33 = .ok (.invokevirtual 71, 3) := by decide +kernel
theorem dX5_wakings_36 : decode cX5_wakings 36 = .ok (.ireturn, 1) := by decide +kernel
theorem dX5_wakings_37 : decode cX5_wakings 37 = .ok (.iconst 0, 1) := by decide +kernel
theorem dX5_wakings_38 : decode cX5_wakings 38 = .ok (.istore_n 2, 1) := by decide +kernel
theorem dX5_wakings_39 : decode cX5_wakings 39 = .ok (.iload_n 2, 1) := by decide +kernel
theorem dX5_wakings_40 : decode cX5_wakings 40 = .ok (.iload_n 1, 1) := by decide +kernel
theorem dX5_wakings_41 : decode cX5_wakings 41 = .ok (.if_icmp .ge 68, 3) := by decide +kernel
theorem dX5_wakings_44 : decode cX5_wakings 44 = .ok (.aload_n 0, 1) := by decide +kernel
theorem dX5_wakings_45 : decode cX5_wakings 45 = .ok (.getfield 10, 3) := by decide +kernel
theorem dX5_wakings_48 : decode cX5_wakings 48 = .ok (.getfield 85, 3) := by decide +kernel
theorem dX5_wakings_51 : decode cX5_wakings 51 = .ok (.aload_n 0, 1) := by decide +kernel
theorem dX5_wakings_52 : decode cX5_wakings 52 = .ok (.getfield 10, 3) := by decide +kernel
theorem dX5_wakings_55 : decode cX5_wakings 55 = .ok (.getfield 125, 3) := by decide +kernel
theorem dX5_wakings_58 : decode cX5_wakings 58 = .ok (.bipush 6, 2) := by decide +kernel
theorem dX5_wakings_60 : decode cX5_wakings 60 = .ok (.irem, 1) := by decide +kernel
theorem dX5_wakings_61 : decode cX5_wakings 61 = .ok (.aload_n 0, 1) := by decide +kernel
theorem dX5_wakings_62 : decode cX5_wakings 62 = .ok (.getfield 10, 3) := by decide +kernel
theorem dX5_wakings_65 : decode cX5_wakings 65 = .ok (.invokevirtual 226, 3) := by decide +kernel
theorem dX5_wakings_68 : decode cX5_wakings 68 = .ok (.bipush 13, 2) := by decide +kernel
theorem dX5_wakings_70 : decode cX5_wakings 70 = .ok (.irem, 1) := by decide +kernel
theorem dX5_wakings_71 : decode cX5_wakings 71 = .ok (.iastore, 1) := by decide +kernel
theorem dX5_wakings_72 : decode cX5_wakings 72 = .ok (.aload_n 0, 1) := by decide +kernel
theorem dX5_wakings_73 : decode cX5_wakings 73 = .ok (.getfield 10, 3) := by decide +kernel
theorem dX5_wakings_76 : decode cX5_wakings 76 = .ok (.dup, 1) := by decide +kernel
theorem dX5_wakings_77 : decode cX5_wakings 77 = .ok (.getfield 78, 3) := by decide +kernel
theorem dX5_wakings_80 : decode cX5_wakings 80 = .ok (.iconst 1, 1) := by decide +kernel
theorem dX5_wakings_81 : decode cX5_wakings 81 = .ok (.aload_n 0, 1) := by decide +kernel
theorem dX5_wakings_82 : decode cX5_wakings 82 = .ok (.getfield 10, 3) := by decide +kernel
theorem dX5_wakings_85 : decode cX5_wakings 85 = .ok (.invokevirtual 226, 3) := by decide +kernel
theorem dX5_wakings_88 : decode cX5_wakings 88 = .ok (.bipush 12, 2) := by decide +kernel
theorem dX5_wakings_90 : decode cX5_wakings 90 = .ok (.irem, 1) := by decide +kernel
theorem dX5_wakings_91 : decode cX5_wakings 91 = .ok (.ishl, 1) := by decide +kernel
theorem dX5_wakings_92 : decode cX5_wakings 92 = .ok (.ixor, 1) := by decide +kernel
theorem dX5_wakings_93 : decode cX5_wakings 93 = .ok (.putfield 78, 3) := by decide +kernel
theorem dX5_wakings_96 : decode cX5_wakings 96 = .ok (.aload_n 0, 1) := by decide +kernel
theorem dX5_wakings_97 : decode cX5_wakings 97 = .ok (.getfield 10, 3) := by decide +kernel
theorem dX5_wakings_100 : decode cX5_wakings 100 = .ok (.invokevirtual 178, 3) := by decide +kernel
theorem dX5_wakings_103 : decode cX5_wakings 103 = .ok (.iinc 2 1, 3) := by decide +kernel
theorem dX5_wakings_106 : decode cX5_wakings 106 = .ok (.goto (-67), 3) := by decide +kernel
theorem dX5_wakings_109 : decode cX5_wakings 109 = .ok (.aload_n 0, 1) := by decide +kernel
theorem dX5_wakings_110 : decode cX5_wakings 110 = .ok (.getfield 10, 3) := by decide +kernel
theorem dX5_wakings_113 : decode cX5_wakings 113 = .ok (.invokevirtual 133, 3) := by decide +kernel
theorem dX5_wakings_116 : decode cX5_wakings 116 = .ok (.ireturn, 1) := by decide +kernel
def bX5_wakings_39 (fu : Nat) : Nat → mt_St → Int32 → Int32 → Option (Int32 × mt_St)
  | 0, _, _, _ => none
  | n + 1, σ, x1, x2 =>
    if x1 ≤ x2 then
      mt_ask (fX4_inForce fu σ 1) fun r1 =>
      some (r1, σ)
    else
      mt_call (fX4_draw fu σ 1) fun r2 s3 =>
      mt_chk (mt_in ((σ 1 4) - (σ 1 4) / (6 : Int32) * (6 : Int32)) 6) <|
      mt_bnd (mt_up s3 (1 + 1) (Int32.toNatClampNeg ((σ 1 4) - (σ 1 4) / (6 : Int32) * (6 : Int32))) (r2 - r2 / (13 : Int32) * (13 : Int32))) fun s4 =>
      mt_call (fX4_draw fu s4 1) fun r5 s6 =>
      mt_bnd (mt_up s6 1 0 ((s4 1 0) ^^^ ((1 : Int32) <<< ((r5 - r5 / (12 : Int32) * (12 : Int32)) &&& 31)))) fun s7 =>
      mt_call (fX4_pass fu s7 1) fun _ s9 =>
      bX5_wakings_39 fu n s9 x1 (x2 + 1)
set_option maxHeartbeats 4000000 in
set_option maxRecDepth 20000 in
theorem vX5_wakings_39 {K : mt_C} {fu : Nat} {r : Int32} {σf : mt_St} (hQ : mt_R K (some .int) (some (.int r)) σf) : ∀ (n : Nat) (σ : mt_St) (x1 : Int32) (x2 : Int32), mt_V K cX5_wakings RX5 3 5 σ 39 [(0, .ref (mt_adr (kG K) 0)), (1, .int x1), (2, .int x2)] [] (bX5_wakings_39 fu n σ x1 x2 = some (r, σf)) := by
  intro n
  induction n with
  | zero => intro σ x1 x2; intro hP; unfold bX5_wakings_39 at hP; cases hP
  | succ n ih =>
    intro σ x1 x2
    unfold bX5_wakings_39
    refine mv_iload_n 2 dX5_wakings_39 rfl rfl ?_
    refine mv_iload_n 1 dX5_wakings_40 rfl rfl ?_
    refine mv_icmp_ge 109 dX5_wakings_41 (by decide) ?_ ?_
    · refine mv_aload_n 0 dX5_wakings_109 rfl rfl ?_
      refine mg_X5_0 fl_X5_10 dX5_wakings_110 ?_
      refine mv_cVri (As := []) (st := []) cal_X4_inForce ins_X4_inForce ml_X5_133 rfl (by decide) rfl rfl (by decide) rfl (Nat.le_of_ble_eq_true rfl) dX5_wakings_113 (fun r h => co_X4_inForce rfl h) (fun r1 => ?_)
      exact mv_iret hQ dX5_wakings_116
    · refine mv_aload_n 0 dX5_wakings_44 rfl rfl ?_
      refine mg_X5_0 fl_X5_10 dX5_wakings_45 ?_
      refine mg_X4_2 rfl fl_X5_85 dX5_wakings_48 ?_
      refine mv_aload_n 0 dX5_wakings_51 rfl rfl ?_
      refine mg_X5_0 fl_X5_10 dX5_wakings_52 ?_
      refine mg_X4_4 rfl fl_X5_125 dX5_wakings_55 ?_
      refine mv_bipush (v := 6) dX5_wakings_58 bp_6 ?_
      refine mv_irem dX5_wakings_60 (by decide) ?_
      refine mv_aload_n 0 dX5_wakings_61 rfl rfl ?_
      refine mg_X5_0 fl_X5_10 dX5_wakings_62 ?_
      refine mv_cVwi (As := []) (st := [.int ((σ 1 4) - (σ 1 4) / (6 : Int32) * (6 : Int32)), .ref (mt_adr (kG K) (1 + 1))]) cal_X4_draw ins_X4_draw ml_X5_226 rfl (by decide) rfl rfl (by decide) rfl (Nat.le_of_ble_eq_true rfl) dX5_wakings_65 (fun r s h => co_X4_draw rfl h) (fun r2 s3 => ?_)
      refine mv_bipush (v := 13) dX5_wakings_68 bp_13 ?_
      refine mv_irem dX5_wakings_70 (by decide) ?_
      refine mv_iast 6 (kd_w1 rfl) (ln_w1 rfl) dX5_wakings_71 (fun s4 => ?_)
      refine mv_aload_n 0 dX5_wakings_72 rfl rfl ?_
      refine mg_X5_0 fl_X5_10 dX5_wakings_73 ?_
      refine mv_dup dX5_wakings_76 rfl ?_
      refine mg_X4_0 rfl fl_X5_78 dX5_wakings_77 ?_
      refine mv_iconst (v := 1) dX5_wakings_80 ic_1 ?_
      refine mv_aload_n 0 dX5_wakings_81 rfl rfl ?_
      refine mg_X5_0 fl_X5_10 dX5_wakings_82 ?_
      refine mv_cVwi (As := []) (st := [.int (1 : Int32), .int (s4 1 0), .ref (mt_adr (kG K) 1)]) cal_X4_draw ins_X4_draw ml_X5_226 rfl (by decide) rfl rfl (by decide) rfl (Nat.le_of_ble_eq_true rfl) dX5_wakings_85 (fun r s h => co_X4_draw rfl h) (fun r5 s6 => ?_)
      refine mv_bipush (v := 12) dX5_wakings_88 bp_12 ?_
      refine mv_irem dX5_wakings_90 (by decide) ?_
      refine mv_ishl dX5_wakings_91 ?_
      refine mv_ixor dX5_wakings_92 ?_
      refine mp_X4_0 rfl fl_X5_78 dX5_wakings_93 (fun s7 => ?_)
      refine mv_aload_n 0 dX5_wakings_96 rfl rfl ?_
      refine mg_X5_0 fl_X5_10 dX5_wakings_97 ?_
      refine mv_cVwv (As := []) (st := []) cal_X4_pass ins_X4_pass ml_X5_178 rfl (by decide) rfl rfl (by decide) rfl (Nat.le_of_ble_eq_true rfl) dX5_wakings_100 (fun r s h => co_X4_pass rfl h) (fun r8 s9 => ?_)
      refine mv_iinc (k0 := 2) (v := x2 + 1) (lv' := [(0, .ref (mt_adr (kG K) 0)), (1, .int x1), (2, .int (x2 + 1))]) [1, 2, 0] dX5_wakings_103 rfl (mt_inc ic_1) (by decide) rfl ?_
      refine mv_goto 39 dX5_wakings_106 (by decide) ?_
      exact ih s9 x1 (x2 + 1)
def bX5_wakings_11 (fu : Nat) (σ : mt_St) : Option (Int32 × mt_St) :=
  mt_call (fX5_finding fu σ (0 : Int32)) fun r1 s2 =>
  some (r1, s2)
set_option maxHeartbeats 4000000 in
set_option maxRecDepth 20000 in
theorem vX5_wakings_11 {K : mt_C} {fu : Nat} {r : Int32} {σf : mt_St} (hQ : mt_R K (some .int) (some (.int r)) σf) : ∀ (σ : mt_St), mt_V K cX5_wakings RX5 3 5 σ 11 [(0, .ref (mt_adr (kG K) 0))] [] (bX5_wakings_11 fu σ = some (r, σf)) := by
  intro σ
  unfold bX5_wakings_11
  refine mv_aload_n 0 dX5_wakings_11 rfl rfl ?_
  refine mv_iconst (v := 0) dX5_wakings_12 ic_0 ?_
  refine mv_cVwi (As := [.int (0 : Int32)]) (st := []) cal_X5_finding ins_X5_finding ml_X5_71 rfl (by decide) rfl rfl (by decide) rfl (Nat.le_of_ble_eq_true rfl) dX5_wakings_13 (fun r s h => co_X5_finding h) (fun r1 s2 => ?_)
  exact mv_iret hQ dX5_wakings_16
def fX5_wakings (fu : Nat) (σ : mt_St) (a1 : Int32) : Option (Int32 × mt_St) :=
  if a1 < (1 : Int32) then
    bX5_wakings_11 fu σ
  else
    if a1 ≤ (20 : Int32) then
      if ((σ 1 4) + a1) ≤ (99999 : Int32) then
        bX5_wakings_39 fu fu σ a1 (0 : Int32)
      else
        mt_call (fX5_finding fu σ (4 : Int32)) fun r1 s2 =>
        some (r1, s2)
    else
      bX5_wakings_11 fu σ
set_option maxHeartbeats 4000000 in
set_option maxRecDepth 20000 in
theorem vX5_wakings {K : mt_C} {fu : Nat} {σ : mt_St} {a1 : Int32} {r : Int32} {σf : mt_St} (hQ : mt_R K (some .int) (some (.int r)) σf) : mt_V K cX5_wakings RX5 3 5 σ 0 [(0, .ref (mt_adr (kG K) 0)), (1, .int a1)] [] (fX5_wakings fu σ a1 = some (r, σf)) := by
  unfold fX5_wakings
  refine mv_iload_n 1 dX5_wakings_0 rfl rfl ?_
  refine mv_iconst (v := 1) dX5_wakings_1 ic_1 ?_
  refine mv_icmp_lt 11 dX5_wakings_2 (by decide) ?_ ?_
  · refine mv_sub (lv' := [(0, .ref (mt_adr (kG K) 0))]) [0] rfl ?_
    exact vX5_wakings_11 hQ σ
  · refine mv_iload_n 1 dX5_wakings_5 rfl rfl ?_
    refine mv_bipush (v := 20) dX5_wakings_6 bp_20 ?_
    refine mv_icmp_le 17 dX5_wakings_8 (by decide) ?_ ?_
    · refine mv_aload_n 0 dX5_wakings_17 rfl rfl ?_
      refine mg_X5_0 fl_X5_10 dX5_wakings_18 ?_
      refine mg_X4_4 rfl fl_X5_125 dX5_wakings_21 ?_
      refine mv_iload_n 1 dX5_wakings_24 rfl rfl ?_
      refine mv_iadd dX5_wakings_25 ?_
      refine mv_ldc kc_X5_128 dX5_wakings_26 ?_
      refine mv_icmp_le 37 dX5_wakings_28 (by decide) ?_ ?_
      · refine mv_iconst (v := 0) dX5_wakings_37 ic_0 ?_
        refine mv_istore_n (lv' := [(0, .ref (mt_adr (kG K) 0)), (1, .int a1), (2, .int (0 : Int32))]) [1, 2, 0] dX5_wakings_38 rfl (by decide) rfl ?_
        exact vX5_wakings_39 hQ fu σ a1 (0 : Int32)
      · refine mv_aload_n 0 dX5_wakings_31 rfl rfl ?_
        refine mv_iconst (v := 4) dX5_wakings_32 ic_4 ?_
        refine mv_cVwi (As := [.int (4 : Int32)]) (st := []) cal_X5_finding ins_X5_finding ml_X5_71 rfl (by decide) rfl rfl (by decide) rfl (Nat.le_of_ble_eq_true rfl) dX5_wakings_33 (fun r s h => co_X5_finding h) (fun r1 s2 => ?_)
        exact mv_iret hQ dX5_wakings_36
    · refine mv_sub (lv' := [(0, .ref (mt_adr (kG K) 0))]) [0] rfl ?_
      exact vX5_wakings_11 hQ σ
theorem co_X5_wakings {l : Launch} {G : mt_G} {fu : Nat} {σ : mt_St} {a1 : Int32} {r : Int32} {σf : mt_St}  (h : fX5_wakings fu σ a1 = some (r, σf)) : mt_Con l G yX5_wakings cX5_wakings 3 (some .int) 5 [.ref (mt_adr G 0), .int a1] σ (some (.int r)) σf :=
  mt_con (by decide) (Nat.le_of_ble_eq_true rfl) (fun K hl hG hQ => by subst hl; subst hG; exact fun _ => vX5_wakings  hQ h)
theorem dX5_sharedDivisor_0 : decode cX5_sharedDivisor 0 = .ok (.iload_n 1, 1) := by decide +kernel
theorem dX5_sharedDivisor_1 : decode cX5_sharedDivisor 1 = .ok (.istore_n 2, 1) := by decide +kernel
theorem dX5_sharedDivisor_2 : decode cX5_sharedDivisor 2 = .ok (.iload_n 2, 1) := by decide +kernel
theorem dX5_sharedDivisor_3 : decode cX5_sharedDivisor 3 = .ok (.iconst 1, 1) := by decide +kernel
theorem dX5_sharedDivisor_4 : decode cX5_sharedDivisor 4 = .ok (.if_icmp .le 23, 3) := by decide +kernel
theorem dX5_sharedDivisor_7 : decode cX5_sharedDivisor 7 = .ok (.iload_n 0, 1) := by decide +kernel
theorem dX5_sharedDivisor_8 : decode cX5_sharedDivisor 8 = .ok (.iload_n 2, 1) := by decide +kernel
theorem dX5_sharedDivisor_9 : decode cX5_sharedDivisor 9 = .ok (.irem, 1) := by decide +kernel
theorem dX5_sharedDivisor_10 : decode cX5_sharedDivisor 10 = .ok (.ifCond .ne 11, 3) := by decide +kernel
theorem dX5_sharedDivisor_13 : decode cX5_sharedDivisor 13 = .ok (.iload_n 1, 1) := by decide +kernel
theorem dX5_sharedDivisor_14 : decode cX5_sharedDivisor 14 = .ok (.iload_n 2, 1) := by decide +kernel
theorem dX5_sharedDivisor_15 : decode cX5_sharedDivisor 15 = .ok (.irem, 1) := by decide +kernel
theorem dX5_sharedDivisor_16 : decode cX5_sharedDivisor 16 = .ok (.ifCond .ne 5, 3) := by decide +kernel
theorem dX5_sharedDivisor_19 : decode cX5_sharedDivisor 19 = .ok (.iload_n 2, 1) := by decide +kernel
theorem dX5_sharedDivisor_20 : decode cX5_sharedDivisor 20 = .ok (.ireturn, 1) := by decide +kernel
theorem dX5_sharedDivisor_21 : decode cX5_sharedDivisor 21 = .ok (.iinc 2 (-1), 3) := by decide +kernel
theorem dX5_sharedDivisor_24 : decode cX5_sharedDivisor 24 = .ok (.goto (-22), 3) := by decide +kernel
theorem dX5_sharedDivisor_27 : decode cX5_sharedDivisor 27 = .ok (.iconst 1, 1) := by decide +kernel
theorem dX5_sharedDivisor_28 : decode cX5_sharedDivisor 28 = .ok (.ireturn, 1) := by decide +kernel
def bX5_sharedDivisor_21 (fu : Nat) (k2 : Int32 → Int32 → Int32 → Option Int32) (x0 : Int32) (x1 : Int32) (x2 : Int32) : Option Int32 :=
  k2 x0 x1 (x2 + -1)
set_option maxHeartbeats 4000000 in
set_option maxRecDepth 20000 in
theorem vX5_sharedDivisor_21 {K : mt_C} {fu : Nat} {σ : mt_St} {r : Int32} (hQ : mt_R K (some .int) (some (.int r)) σ) {k2 : Int32 → Int32 → Int32 → Option Int32} (hk2 : ∀ (x0 : Int32) (x1 : Int32) (x2 : Int32), mt_V K cX5_sharedDivisor RX5 3 0 σ 2 [(0, .int x0), (1, .int x1), (2, .int x2)] [] (k2 x0 x1 x2 = some r)) : ∀ (x0 : Int32) (x1 : Int32) (x2 : Int32), mt_V K cX5_sharedDivisor RX5 3 0 σ 21 [(0, .int x0), (1, .int x1), (2, .int x2)] [] (bX5_sharedDivisor_21 fu k2 x0 x1 x2 = some r) := by
  intro x0 x1 x2
  unfold bX5_sharedDivisor_21
  refine mv_iinc (k0 := 2) (v := x2 + -1) (lv' := [(0, .int x0), (1, .int x1), (2, .int (x2 + -1))]) [1, 2, 0] dX5_sharedDivisor_21 rfl (mt_inc ic_m1) (by decide) rfl ?_
  refine mv_goto 2 dX5_sharedDivisor_24 (by decide) ?_
  exact hk2 x0 x1 (x2 + -1)
def bX5_sharedDivisor_2 (fu : Nat) : Nat → Int32 → Int32 → Int32 → Option Int32
  | 0, _, _, _ => none
  | n + 1, x0, x1, x2 =>
    if x2 ≤ (1 : Int32) then
      some (1 : Int32)
    else
      mt_chk (!decide (x2 = 0)) <|
      if (x0 - x0 / x2 * x2) = 0 then
        mt_chk (!decide (x2 = 0)) <|
        if (x1 - x1 / x2 * x2) = 0 then
          some x2
        else
          bX5_sharedDivisor_21 fu (fun x0 x1 x2 => bX5_sharedDivisor_2 fu n x0 x1 x2) x0 x1 x2
      else
        bX5_sharedDivisor_21 fu (fun x0 x1 x2 => bX5_sharedDivisor_2 fu n x0 x1 x2) x0 x1 x2
set_option maxHeartbeats 4000000 in
set_option maxRecDepth 20000 in
theorem vX5_sharedDivisor_2 {K : mt_C} {fu : Nat} {σ : mt_St} {r : Int32} (hQ : mt_R K (some .int) (some (.int r)) σ) : ∀ (n : Nat) (x0 : Int32) (x1 : Int32) (x2 : Int32), mt_V K cX5_sharedDivisor RX5 3 0 σ 2 [(0, .int x0), (1, .int x1), (2, .int x2)] [] (bX5_sharedDivisor_2 fu n x0 x1 x2 = some r) := by
  intro n
  induction n with
  | zero => intro x0 x1 x2; intro hP; unfold bX5_sharedDivisor_2 at hP; cases hP
  | succ n ih =>
    intro x0 x1 x2
    unfold bX5_sharedDivisor_2
    refine mv_iload_n 2 dX5_sharedDivisor_2 rfl rfl ?_
    refine mv_iconst (v := 1) dX5_sharedDivisor_3 ic_1 ?_
    refine mv_icmp_le 27 dX5_sharedDivisor_4 (by decide) ?_ ?_
    · refine mv_iconst (v := 1) dX5_sharedDivisor_27 ic_1 ?_
      exact mv_iretr hQ dX5_sharedDivisor_28
    · refine mv_iload_n 0 dX5_sharedDivisor_7 rfl rfl ?_
      refine mv_iload_n 2 dX5_sharedDivisor_8 rfl rfl ?_
      refine mv_irem_c dX5_sharedDivisor_9 ?_
      refine mv_if_ne 21 dX5_sharedDivisor_10 (by decide) ?_ ?_
      · exact vX5_sharedDivisor_21 hQ (fun x0 x1 x2 => ih x0 x1 x2) x0 x1 x2
      · refine mv_iload_n 1 dX5_sharedDivisor_13 rfl rfl ?_
        refine mv_iload_n 2 dX5_sharedDivisor_14 rfl rfl ?_
        refine mv_irem_c dX5_sharedDivisor_15 ?_
        refine mv_if_ne 21 dX5_sharedDivisor_16 (by decide) ?_ ?_
        · exact vX5_sharedDivisor_21 hQ (fun x0 x1 x2 => ih x0 x1 x2) x0 x1 x2
        · refine mv_iload_n 2 dX5_sharedDivisor_19 rfl rfl ?_
          exact mv_iretr hQ dX5_sharedDivisor_20
def fX5_sharedDivisor (fu : Nat) (a1 : Int32) (a2 : Int32) : Option Int32 :=
  bX5_sharedDivisor_2 fu fu a1 a2 a2
set_option maxHeartbeats 4000000 in
set_option maxRecDepth 20000 in
theorem vX5_sharedDivisor {K : mt_C} {fu : Nat} {σ : mt_St} {a1 : Int32} {a2 : Int32} {r : Int32} (hQ : mt_R K (some .int) (some (.int r)) σ) : mt_V K cX5_sharedDivisor RX5 3 0 σ 0 [(0, .int a1), (1, .int a2)] [] (fX5_sharedDivisor fu a1 a2 = some r) := by
  unfold fX5_sharedDivisor
  refine mv_iload_n 1 dX5_sharedDivisor_0 rfl rfl ?_
  refine mv_istore_n (lv' := [(0, .int a1), (1, .int a2), (2, .int a2)]) [1, 2, 0] dX5_sharedDivisor_1 rfl (by decide) rfl ?_
  exact vX5_sharedDivisor_2 hQ fu a1 a2 a2
theorem co_X5_sharedDivisor {l : Launch} {G : mt_G} {fu : Nat} {σ : mt_St} {a1 : Int32} {a2 : Int32} {r : Int32}  (h : fX5_sharedDivisor fu a1 a2 = some r) : mt_Con l G yX5_sharedDivisor cX5_sharedDivisor 3 (some .int) 0 [.int a1, .int a2] σ (some (.int r)) σ :=
  mt_con (by decide) (Nat.le_of_ble_eq_true rfl) (fun K hl hG hQ => by subst hl; subst hG; exact fun _ => vX5_sharedDivisor  hQ h)
theorem dX5_power_0 : decode cX5_power 0 = .ok (.lconst 1, 1) := by decide +kernel
theorem dX5_power_1 : decode cX5_power 1 = .ok (.lstore_n 2, 1) := by decide +kernel
theorem dX5_power_2 : decode cX5_power 2 = .ok (.iconst 0, 1) := by decide +kernel
theorem dX5_power_3 : decode cX5_power 3 = .ok (.istore 4, 2) := by decide +kernel
theorem dX5_power_5 : decode cX5_power 5 = .ok (.iload 4, 2) := by decide +kernel
theorem dX5_power_7 : decode cX5_power 7 = .ok (.iload_n 1, 1) := by decide +kernel
theorem dX5_power_8 : decode cX5_power 8 = .ok (.if_icmp .ge 14, 3) := by decide +kernel
theorem dX5_power_11 : decode cX5_power 11 = .ok (.lload_n 2, 1) := by decide +kernel
theorem dX5_power_12 : decode cX5_power 12 = .ok (.iload_n 0, 1) := by decide +kernel
theorem dX5_power_13 : decode cX5_power 13 = .ok (.i2l, 1) := by decide +kernel
theorem dX5_power_14 : decode cX5_power 14 = .ok (.lmul, 1) := by decide +kernel
theorem dX5_power_15 : decode cX5_power 15 = .ok (.lstore_n 2, 1) := by decide +kernel
theorem dX5_power_16 : decode cX5_power 16 = .ok (.iinc 4 1, 3) := by decide +kernel
theorem dX5_power_19 : decode cX5_power 19 = .ok (.goto (-14), 3) := by decide +kernel
theorem dX5_power_22 : decode cX5_power 22 = .ok (.lload_n 2, 1) := by decide +kernel
theorem dX5_power_23 : decode cX5_power 23 = .ok (.lreturn, 1) := by decide +kernel
def bX5_power_5 (fu : Nat) : Nat → Int32 → Int32 → Int64 → Int32 → Option Int64
  | 0, _, _, _, _ => none
  | n + 1, x0, x1, x2, x4 =>
    if x1 ≤ x4 then
      some x2
    else
      bX5_power_5 fu n x0 x1 (x2 * (Int32.toInt64 x0)) (x4 + 1)
set_option maxHeartbeats 4000000 in
set_option maxRecDepth 20000 in
theorem vX5_power_5 {K : mt_C} {fu : Nat} {σ : mt_St} {r : Int64} (hQ : mt_R K (some .long) (some (.long r)) σ) : ∀ (n : Nat) (x0 : Int32) (x1 : Int32) (x2 : Int64) (x4 : Int32), mt_V K cX5_power RX5 5 0 σ 5 [(0, .int x0), (1, .int x1), (2, .long x2), (4, .int x4)] [] (bX5_power_5 fu n x0 x1 x2 x4 = some r) := by
  intro n
  induction n with
  | zero => intro x0 x1 x2 x4; intro hP; unfold bX5_power_5 at hP; cases hP
  | succ n ih =>
    intro x0 x1 x2 x4
    unfold bX5_power_5
    refine mv_iload 3 dX5_power_5 rfl ?_
    refine mv_iload_n 1 dX5_power_7 rfl rfl ?_
    refine mv_icmp_ge 22 dX5_power_8 (by decide) ?_ ?_
    · refine mv_lload_n 2 dX5_power_22 rfl rfl ?_
      exact mv_lretr hQ dX5_power_23
    · refine mv_lload_n 2 dX5_power_11 rfl rfl ?_
      refine mv_iload_n 0 dX5_power_12 rfl rfl ?_
      refine mv_i2l dX5_power_13 ?_
      refine mv_lmul dX5_power_14 ?_
      refine mv_lstore_n (lv' := [(0, .int x0), (1, .int x1), (2, .long (x2 * (Int32.toInt64 x0))), (4, .int x4)]) [1, 2, 0, 3] dX5_power_15 rfl (by decide) rfl ?_
      refine mv_iinc (k0 := 3) (v := x4 + 1) (lv' := [(0, .int x0), (1, .int x1), (2, .long (x2 * (Int32.toInt64 x0))), (4, .int (x4 + 1))]) [1, 2, 3, 0] dX5_power_16 rfl (mt_inc ic_1) (by decide) rfl ?_
      refine mv_goto 5 dX5_power_19 (by decide) ?_
      exact ih x0 x1 (x2 * (Int32.toInt64 x0)) (x4 + 1)
def fX5_power (fu : Nat) (a1 : Int32) (a2 : Int32) : Option Int64 :=
  bX5_power_5 fu fu a1 a2 (1 : Int64) (0 : Int32)
set_option maxHeartbeats 4000000 in
set_option maxRecDepth 20000 in
theorem vX5_power {K : mt_C} {fu : Nat} {σ : mt_St} {a1 : Int32} {a2 : Int32} {r : Int64} (hQ : mt_R K (some .long) (some (.long r)) σ) : mt_V K cX5_power RX5 5 0 σ 0 [(0, .int a1), (1, .int a2)] [] (fX5_power fu a1 a2 = some r) := by
  unfold fX5_power
  refine mv_lconst (v := 1) dX5_power_0 (by decide) ?_
  refine mv_lstore_n (lv' := [(0, .int a1), (1, .int a2), (2, .long (1 : Int64))]) [1, 2, 0] dX5_power_1 rfl (by decide) rfl ?_
  refine mv_iconst (v := 0) dX5_power_2 ic_0 ?_
  refine mv_istore (lv' := [(0, .int a1), (1, .int a2), (2, .long (1 : Int64)), (4, .int (0 : Int32))]) [1, 2, 3, 0] dX5_power_3 (by decide) rfl ?_
  exact vX5_power_5 hQ fu a1 a2 (1 : Int64) (0 : Int32)
theorem co_X5_power {l : Launch} {G : mt_G} {fu : Nat} {σ : mt_St} {a1 : Int32} {a2 : Int32} {r : Int64}  (h : fX5_power fu a1 a2 = some r) : mt_Con l G yX5_power cX5_power 5 (some .long) 0 [.int a1, .int a2] σ (some (.long r)) σ :=
  mt_con (by decide) (Nat.le_of_ble_eq_true rfl) (fun K hl hG hQ => by subst hl; subst hG; exact fun _ => vX5_power  hQ h)
theorem dX5_odds_0 : decode cX5_odds 0 = .ok (.aload_n 0, 1) := by decide +kernel
theorem dX5_odds_1 : decode cX5_odds 1 = .ok (.iload_n 1, 1) := by decide +kernel
theorem dX5_odds_2 : decode cX5_odds 2 = .ok (.invokevirtual 98, 3) := by decide +kernel
theorem dX5_odds_5 : decode cX5_odds 5 = .ok (.ifCond .eq 20, 3) := by decide +kernel
theorem dX5_odds_8 : decode cX5_odds 8 = .ok (.iload_n 2, 1) := by decide +kernel
theorem dX5_odds_9 : decode cX5_odds 9 = .ok (.bipush 17, 2) := by decide +kernel
theorem dX5_odds_11 : decode cX5_odds 11 = .ok (.invokestatic 67, 3) := by decide +kernel
theorem dX5_odds_14 : decode cX5_odds 14 = .ok (.ifCond .eq 11, 3) := by decide +kernel
theorem dX5_odds_17 : decode cX5_odds 17 = .ok (.iload_n 3, 1) := by decide +kernel
theorem dX5_odds_18 : decode cX5_odds 18 = .ok (.iconst 1, 1) := by decide +kernel
theorem dX5_odds_19 : decode cX5_odds 19 = .ok (.invokestatic 67, 3) := by decide +kernel
theorem dX5_odds_22 : decode cX5_odds 22 = .ok (.ifCond .ne 10, 3) := by decide +kernel
theorem dX5_odds_25 : decode cX5_odds 25 = .ok (.aload_n 0, 1) := by decide +kernel
theorem dX5_odds_26 : decode cX5_odds 26 = .ok (.iconst 0, 1) := by decide +kernel
theorem dX5_odds_27 : decode cX5_odds 27 = .ok (.invokevirtual 71, 3) := by decide +kernel
theorem dX5_odds_30 : decode cX5_odds 30 = .ok (.i2l, 1) := by decide +kernel
theorem dX5_odds_31 : decode cX5_odds 31 = .ok (.lreturn, 1) := by decide +kernel
theorem dX5_odds_32 : decode cX5_odds 32 = .ok (.bipush 12, 2) := by decide +kernel
theorem dX5_odds_34 : decode cX5_odds 34 = .ok (.aload_n 0, 1) := by decide +kernel
theorem dX5_odds_35 : decode cX5_odds 35 = .ok (.getfield 10, 3) := by decide +kernel
theorem dX5_odds_38 : decode cX5_odds 38 = .ok (.getfield 102, 3) := by decide +kernel
theorem dX5_odds_41 : decode cX5_odds 41 = .ok (.iload_n 1, 1) := by decide +kernel
theorem dX5_odds_42 : decode cX5_odds 42 = .ok (.aaload, 1) := by decide +kernel
theorem dX5_odds_43 : decode cX5_odds 43 = .ok (.getfield 187, 3) := by decide +kernel
theorem dX5_odds_46 : decode cX5_odds 46 = .ok (.invokestatic 196, 3) := by decide +kernel
theorem dX5_odds_49 : decode cX5_odds 49 = .ok (.isub, 1) := by decide +kernel
theorem dX5_odds_50 : decode cX5_odds 50 = .ok (.istore 4, 2) := by decide +kernel
theorem dX5_odds_52 : decode cX5_odds 52 = .ok (.iload 4, 2) := by decide +kernel
theorem dX5_odds_54 : decode cX5_odds 54 = .ok (.bipush 12, 2) := by decide +kernel
theorem dX5_odds_56 : decode cX5_odds 56 = .ok (.invokestatic 229, 3) := by decide +kernel
theorem dX5_odds_59 : decode cX5_odds 59 = .ok (.istore 5, 2) := by decide +kernel
theorem dX5_odds_61 : decode cX5_odds 61 = .ok (.iload_n 3, 1) := by decide +kernel
theorem dX5_odds_62 : decode cX5_odds 62 = .ok (.ifCond .ne 8, 3) := by decide +kernel
theorem dX5_odds_65 : decode cX5_odds 65 = .ok (.iload 4, 2) := by decide +kernel
theorem dX5_odds_67 : decode cX5_odds 67 = .ok (.goto 5, 3) := by decide +kernel
theorem dX5_odds_70 : decode cX5_odds 70 = .ok (.bipush 12, 2) := by decide +kernel
theorem dX5_odds_72 : decode cX5_odds 72 = .ok (.iload 5, 2) := by decide +kernel
theorem dX5_odds_74 : decode cX5_odds 74 = .ok (.idiv, 1) := by decide +kernel
theorem dX5_odds_75 : decode cX5_odds 75 = .ok (.iload_n 2, 1) := by decide +kernel
theorem dX5_odds_76 : decode cX5_odds 76 = .ok (.invokestatic 232, 3) := by decide +kernel
theorem dX5_odds_79 : decode cX5_odds 79 = .ok (.lreturn, 1) := by decide +kernel
def bX5_odds_72 (fu : Nat) (σ : mt_St) (x2 : Int32) (x5 : Int32) (y0 : Int32) : Option (Int64 × mt_St) :=
  mt_chk (!decide (x5 = 0)) <|
  mt_ask (fX5_power fu (y0 / x5) x2) fun r1 =>
  some (r1, σ)
set_option maxHeartbeats 4000000 in
set_option maxRecDepth 20000 in
theorem vX5_odds_72 {K : mt_C} {fu : Nat} {r : Int64} {σf : mt_St} (hQ : mt_R K (some .long) (some (.long r)) σf) : ∀ (σ : mt_St) (x2 : Int32) (x5 : Int32) (y0 : Int32), mt_V K cX5_odds RX5 6 2 σ 72 [(2, .int x2), (5, .int x5)] [.int y0] (bX5_odds_72 fu σ x2 x5 y0 = some (r, σf)) := by
  intro σ x2 x5 y0
  unfold bX5_odds_72
  refine mv_iload 1 dX5_odds_72 rfl ?_
  refine mv_idiv_c dX5_odds_74 ?_
  refine mv_iload_n 0 dX5_odds_75 rfl rfl ?_
  refine mv_cSrl (As := [.int (y0 / x5), .int x2]) (st := []) cal_X5_power sta_X5_power ml_X5_232 rfl (by decide) rfl (Nat.le_of_ble_eq_true rfl) dX5_odds_76 (fun r h => co_X5_power h) (fun r1 => ?_)
  exact mv_lret hQ dX5_odds_79
def bX5_odds_25 (fu : Nat) (σ : mt_St) : Option (Int64 × mt_St) :=
  mt_call (fX5_finding fu σ (0 : Int32)) fun r1 s2 =>
  some ((Int32.toInt64 r1), s2)
set_option maxHeartbeats 4000000 in
set_option maxRecDepth 20000 in
theorem vX5_odds_25 {K : mt_C} {fu : Nat} {r : Int64} {σf : mt_St} (hQ : mt_R K (some .long) (some (.long r)) σf) : ∀ (σ : mt_St), mt_V K cX5_odds RX5 6 2 σ 25 [(0, .ref (mt_adr (kG K) 0))] [] (bX5_odds_25 fu σ = some (r, σf)) := by
  intro σ
  unfold bX5_odds_25
  refine mv_aload_n 0 dX5_odds_25 rfl rfl ?_
  refine mv_iconst (v := 0) dX5_odds_26 ic_0 ?_
  refine mv_cVwi (As := [.int (0 : Int32)]) (st := []) cal_X5_finding ins_X5_finding ml_X5_71 rfl (by decide) rfl rfl (by decide) rfl (Nat.le_of_ble_eq_true rfl) dX5_odds_27 (fun r s h => co_X5_finding h) (fun r1 s2 => ?_)
  refine mv_i2l dX5_odds_30 ?_
  exact mv_lret hQ dX5_odds_31
def fX5_odds (fu : Nat) (σ : mt_St) (a1 : Int32) (a2 : Int32) (a3 : Int32) : Option (Int64 × mt_St) :=
  mt_ask (fX5_isTreaty fu σ a1) fun r1 =>
  if r1 = 0 then
    bX5_odds_25 fu σ
  else
    mt_ask (fX5_isWithin fu a2 (17 : Int32)) fun r2 =>
    if r2 = 0 then
      bX5_odds_25 fu σ
    else
      mt_ask (fX5_isWithin fu a3 (1 : Int32)) fun r3 =>
      if r3 = 0 then
        bX5_odds_25 fu σ
      else
        mt_chk (mt_in a1 8) <|
        mt_ask (fJ6_bitCount_0f7a4 fu (σ ((1 + 2) + 2 + Int32.toNatClampNeg a1) 3)) fun r5 =>
        mt_ask (fX5_sharedDivisor fu ((12 : Int32) - r5) (12 : Int32)) fun r6 =>
        if a3 = 0 then
          bX5_odds_72 fu σ a2 r6 ((12 : Int32) - r5)
        else
          bX5_odds_72 fu σ a2 r6 (12 : Int32)
set_option maxHeartbeats 4000000 in
set_option maxRecDepth 20000 in
theorem vX5_odds {K : mt_C} {fu : Nat} {σ : mt_St} {a1 : Int32} {a2 : Int32} {a3 : Int32} {r : Int64} {σf : mt_St} (hQ : mt_R K (some .long) (some (.long r)) σf) : mt_V K cX5_odds RX5 6 2 σ 0 [(0, .ref (mt_adr (kG K) 0)), (1, .int a1), (2, .int a2), (3, .int a3)] [] (fX5_odds fu σ a1 a2 a3 = some (r, σf)) := by
  unfold fX5_odds
  refine mv_aload_n 0 dX5_odds_0 rfl rfl ?_
  refine mv_iload_n 1 dX5_odds_1 rfl rfl ?_
  refine mv_cVri (As := [.int a1]) (st := []) cal_X5_isTreaty ins_X5_isTreaty ml_X5_98 rfl (by decide) rfl rfl (by decide) rfl (Nat.le_of_ble_eq_true rfl) dX5_odds_2 (fun r h => co_X5_isTreaty h) (fun r1 => ?_)
  refine mv_if_eq 25 dX5_odds_5 (by decide) ?_ ?_
  · refine mv_sub (lv' := [(0, .ref (mt_adr (kG K) 0))]) [0] rfl ?_
    exact vX5_odds_25 hQ σ
  · refine mv_iload_n 2 dX5_odds_8 rfl rfl ?_
    refine mv_bipush (v := 17) dX5_odds_9 bp_17 ?_
    refine mv_cSri (As := [.int a2, .int (17 : Int32)]) (st := []) cal_X5_isWithin sta_X5_isWithin ml_X5_67 rfl (by decide) rfl (Nat.le_of_ble_eq_true rfl) dX5_odds_11 (fun r h => co_X5_isWithin h) (fun r2 => ?_)
    refine mv_if_eq 25 dX5_odds_14 (by decide) ?_ ?_
    · refine mv_sub (lv' := [(0, .ref (mt_adr (kG K) 0))]) [0] rfl ?_
      exact vX5_odds_25 hQ σ
    · refine mv_iload_n 3 dX5_odds_17 rfl rfl ?_
      refine mv_iconst (v := 1) dX5_odds_18 ic_1 ?_
      refine mv_cSri (As := [.int a3, .int (1 : Int32)]) (st := []) cal_X5_isWithin sta_X5_isWithin ml_X5_67 rfl (by decide) rfl (Nat.le_of_ble_eq_true rfl) dX5_odds_19 (fun r h => co_X5_isWithin h) (fun r3 => ?_)
      refine mv_if_ne 32 dX5_odds_22 (by decide) ?_ ?_
      · refine mv_bipush (v := 12) dX5_odds_32 bp_12 ?_
        refine mv_aload_n 0 dX5_odds_34 rfl rfl ?_
        refine mg_X5_0 fl_X5_10 dX5_odds_35 ?_
        refine mg_X4_6 rfl fl_X5_102 dX5_odds_38 ?_
        refine mv_iload_n 1 dX5_odds_41 rfl rfl ?_
        refine mv_aaldT (kd_w2 rfl) (ln_w2 rfl) dX5_odds_42 (fun h4 => ?_)
        refine mg_X3_3 (kd_tr (kd_w2 rfl) h4) fl_X5_187 dX5_odds_43 ?_
        refine mv_cSri (As := [.int (σ ((1 + 2) + 2 + Int32.toNatClampNeg a1) 3)]) (st := [.int (12 : Int32)]) cal_J6_bitCount_0f7a4 sta_J6_bitCount_0f7a4 ml_X5_196 rfl (by decide) rfl (Nat.le_of_ble_eq_true rfl) dX5_odds_46 (fun r h => co_J6_bitCount_0f7a4 h) (fun r5 => ?_)
        refine mv_isub dX5_odds_49 ?_
        refine mv_istore (lv' := [(2, .int a2), (3, .int a3), (4, .int ((12 : Int32) - r5))]) [3, 4, 0] dX5_odds_50 (by decide) rfl ?_
        refine mv_iload 2 dX5_odds_52 rfl ?_
        refine mv_bipush (v := 12) dX5_odds_54 bp_12 ?_
        refine mv_cSri (As := [.int ((12 : Int32) - r5), .int (12 : Int32)]) (st := []) cal_X5_sharedDivisor sta_X5_sharedDivisor ml_X5_229 rfl (by decide) rfl (Nat.le_of_ble_eq_true rfl) dX5_odds_56 (fun r h => co_X5_sharedDivisor h) (fun r6 => ?_)
        refine mv_istore (lv' := [(2, .int a2), (3, .int a3), (4, .int ((12 : Int32) - r5)), (5, .int r6)]) [1, 2, 3, 0] dX5_odds_59 (by decide) rfl ?_
        refine mv_iload_n 1 dX5_odds_61 rfl rfl ?_
        refine mv_if_ne 70 dX5_odds_62 (by decide) ?_ ?_
        · refine mv_bipush (v := 12) dX5_odds_70 bp_12 ?_
          refine mv_sub (lv' := [(2, .int a2), (5, .int r6)]) [0, 3] rfl ?_
          exact vX5_odds_72 hQ σ a2 r6 (12 : Int32)
        · refine mv_iload 2 dX5_odds_65 rfl ?_
          refine mv_goto 72 dX5_odds_67 (by decide) ?_
          refine mv_sub (lv' := [(2, .int a2), (5, .int r6)]) [0, 3] rfl ?_
          exact vX5_odds_72 hQ σ a2 r6 ((12 : Int32) - r5)
      · refine mv_sub (lv' := [(0, .ref (mt_adr (kG K) 0))]) [0] rfl ?_
        exact vX5_odds_25 hQ σ
theorem co_X5_odds {l : Launch} {G : mt_G} {fu : Nat} {σ : mt_St} {a1 : Int32} {a2 : Int32} {a3 : Int32} {r : Int64} {σf : mt_St}  (h : fX5_odds fu σ a1 a2 a3 = some (r, σf)) : mt_Con l G yX5_odds cX5_odds 6 (some .long) 2 [.ref (mt_adr G 0), .int a1, .int a2, .int a3] σ (some (.long r)) σf :=
  mt_con (by decide) (Nat.le_of_ble_eq_true rfl) (fun K hl hG hQ => by subst hl; subst hG; exact fun _ => vX5_odds  hQ h)
theorem dX5_seed_0 : decode cX5_seed 0 = .ok (.aload_n 0, 1) := by decide +kernel
theorem dX5_seed_1 : decode cX5_seed 1 = .ok (.getfield 10, 3) := by decide +kernel
theorem dX5_seed_4 : decode cX5_seed 4 = .ok (.getfield 235, 3) := by decide +kernel
theorem dX5_seed_7 : decode cX5_seed 7 = .ok (.istore_n 2, 1) := by decide +kernel
theorem dX5_seed_8 : decode cX5_seed 8 = .ok (.aload_n 0, 1) := by decide +kernel
theorem dX5_seed_9 : decode cX5_seed 9 = .ok (.getfield 10, 3) := by decide +kernel
theorem dX5_seed_12 : decode cX5_seed 12 = .ok (.iload_n 1, 1) := by decide +kernel
theorem dX5_seed_13 : decode cX5_seed 13 = .ok (.putfield 235, 3) := by decide +kernel
theorem dX5_seed_16 : decode cX5_seed 16 = .ok (.iload_n 2, 1) := by decide +kernel
theorem dX5_seed_17 : decode cX5_seed 17 = .ok (.ireturn, 1) := by decide +kernel
def fX5_seed (fu : Nat) (σ : mt_St) (a1 : Int32) : Option (Int32 × mt_St) :=
  mt_bnd (mt_up σ 1 5 a1) fun s1 =>
  some ((σ 1 5), s1)
set_option maxHeartbeats 4000000 in
set_option maxRecDepth 20000 in
theorem vX5_seed {K : mt_C} {fu : Nat} {σ : mt_St} {a1 : Int32} {r : Int32} {σf : mt_St} (hQ : mt_R K (some .int) (some (.int r)) σf) : mt_V K cX5_seed RX5 3 0 σ 0 [(0, .ref (mt_adr (kG K) 0)), (1, .int a1)] [] (fX5_seed fu σ a1 = some (r, σf)) := by
  unfold fX5_seed
  refine mv_aload_n 0 dX5_seed_0 rfl rfl ?_
  refine mg_X5_0 fl_X5_10 dX5_seed_1 ?_
  refine mg_X4_5 rfl fl_X5_235 dX5_seed_4 ?_
  refine mv_istore_n (lv' := [(0, .ref (mt_adr (kG K) 0)), (1, .int a1), (2, .int (σ 1 5))]) [1, 2, 0] dX5_seed_7 rfl (by decide) rfl ?_
  refine mv_aload_n 0 dX5_seed_8 rfl rfl ?_
  refine mg_X5_0 fl_X5_10 dX5_seed_9 ?_
  refine mv_iload_n 1 dX5_seed_12 rfl rfl ?_
  refine mp_X4_5 rfl fl_X5_235 dX5_seed_13 (fun s1 => ?_)
  refine mv_iload_n 2 dX5_seed_16 rfl rfl ?_
  exact mv_iret hQ dX5_seed_17
theorem co_X5_seed {l : Launch} {G : mt_G} {fu : Nat} {σ : mt_St} {a1 : Int32} {r : Int32} {σf : mt_St}  (h : fX5_seed fu σ a1 = some (r, σf)) : mt_Con l G yX5_seed cX5_seed 3 (some .int) 0 [.ref (mt_adr G 0), .int a1] σ (some (.int r)) σf :=
  mt_con (by decide) (Nat.le_of_ble_eq_true rfl) (fun K hl hG hQ => by subst hl; subst hG; exact fun _ => vX5_seed  hQ h)
theorem dX5_feed_0 : decode cX5_feed 0 = .ok (.iload_n 2, 1) := by decide +kernel
theorem dX5_feed_1 : decode cX5_feed 1 = .ok (.iconst 1, 1) := by decide +kernel
theorem dX5_feed_2 : decode cX5_feed 2 = .ok (.if_icmp .lt 8, 3) := by decide +kernel
theorem dX5_feed_5 : decode cX5_feed 5 = .ok (.iload_n 2, 1) := by decide +kernel
theorem dX5_feed_6 : decode cX5_feed 6 = .ok (.iconst 4, 1) := by decide +kernel
theorem dX5_feed_7 : decode cX5_feed 7 = .ok (.if_icmp .le 9, 3) := by decide +kernel
theorem dX5_feed_10 : decode cX5_feed 10 = .ok (.aload_n 0, 1) := by decide +kernel
theorem dX5_feed_11 : decode cX5_feed 11 = .ok (.iconst 0, 1) := by decide +kernel
theorem dX5_feed_12 : decode cX5_feed 12 = .ok (.invokevirtual 71, 3) := by decide +kernel
theorem dX5_feed_15 : decode cX5_feed 15 = .ok (.ireturn, 1) := by decide +kernel
theorem dX5_feed_16 : decode cX5_feed 16 = .ok (.aload_n 0, 1) := by decide +kernel
theorem dX5_feed_17 : decode cX5_feed 17 = .ok (.getfield 53, 3) := by decide +kernel
theorem dX5_feed_20 : decode cX5_feed 20 = .ok (.getfield 238, 3) := by decide +kernel
theorem dX5_feed_23 : decode cX5_feed 23 = .ok (.iload_n 2, 1) := by decide +kernel
theorem dX5_feed_24 : decode cX5_feed 24 = .ok (.iadd, 1) := by decide +kernel
theorem dX5_feed_25 : decode cX5_feed 25 = .ok (.bipush 120, 2) := by decide +kernel
theorem dX5_feed_27 : decode cX5_feed 27 = .ok (.if_icmp .le 9, 3) := by decide +kernel
theorem dX5_feed_30 : decode cX5_feed 30 = .ok (.aload_n 0, 1) := by decide +kernel
theorem dX5_feed_31 : decode cX5_feed 31 = .ok (.iconst 1, 1) := by decide +kernel
theorem dX5_feed_32 : decode cX5_feed 32 = .ok (.invokevirtual 71, 3) := by decide +kernel
theorem dX5_feed_35 : decode cX5_feed 35 = .ok (.ireturn, 1) := by decide +kernel
theorem dX5_feed_36 : decode cX5_feed 36 = .ok (.iload_n 2, 1) := by decide +kernel
theorem dX5_feed_37 : decode cX5_feed 37 = .ok (.iconst 1, 1) := by decide +kernel
theorem dX5_feed_38 : decode cX5_feed 38 = .ok (.isub, 1) := by decide +kernel
theorem dX5_feed_39 : decode cX5_feed 39 = .ok (.istore_n 3, 1) := by decide +kernel
theorem dX5_feed_40 : decode cX5_feed 40 = .ok (.iload_n 3, 1) := by decide +kernel
theorem dX5_feed_41 : decode cX5_feed 41 = .ok (.ifCond .lt 23, 3) := by decide +kernel
theorem dX5_feed_44 : decode cX5_feed 44 = .ok (.aload_n 0, 1) := by decide +kernel
theorem dX5_feed_45 : decode cX5_feed 45 = .ok (.getfield 53, 3) := by decide +kernel
theorem dX5_feed_48 : decode cX5_feed 48 = .ok (.iload_n 1, 1) := by decide +kernel
theorem dX5_feed_49 : decode cX5_feed 49 = .ok (.bipush 8, 2) := by decide +kernel
theorem dX5_feed_51 : decode cX5_feed 51 = .ok (.iload_n 3, 1) := by decide +kernel
theorem dX5_feed_52 : decode cX5_feed 52 = .ok (.imul, 1) := by decide +kernel
theorem dX5_feed_53 : decode cX5_feed 53 = .ok (.iushr, 1) := by decide +kernel
theorem dX5_feed_54 : decode cX5_feed 54 = .ok (.i2b, 1) := by decide +kernel
theorem dX5_feed_55 : decode cX5_feed 55 = .ok (.invokevirtual 241, 3) := by decide +kernel
theorem dX5_feed_58 : decode cX5_feed 58 = .ok (.iinc 3 (-1), 3) := by decide +kernel
theorem dX5_feed_61 : decode cX5_feed 61 = .ok (.goto (-21), 3) := by decide +kernel
theorem dX5_feed_64 : decode cX5_feed 64 = .ok (.aload_n 0, 1) := by decide +kernel
theorem dX5_feed_65 : decode cX5_feed 65 = .ok (.getfield 53, 3) := by decide +kernel
theorem dX5_feed_68 : decode cX5_feed 68 = .ok (.getfield 238, 3) := by decide +kernel
theorem dX5_feed_71 : decode cX5_feed 71 = .ok (.ireturn, 1) := by decide +kernel
def bX5_feed_40 (fu : Nat) : Nat → mt_St → Int32 → Int32 → Option (Int32 × mt_St)
  | 0, _, _, _ => none
  | n + 1, σ, x1, x3 =>
    if x3 < 0 then
      some ((σ 44 1), σ)
    else
      mt_call (fX0_take fu σ ((Int32.toInt8 ((Int32.toUInt32 x1 >>> (Int32.toUInt32 ((8 : Int32) * x3) &&& Int32.toUInt32 31)).toInt32)).toInt32)) fun _ s2 =>
      bX5_feed_40 fu n s2 x1 (x3 + -1)
set_option maxHeartbeats 4000000 in
set_option maxRecDepth 20000 in
theorem vX5_feed_40 {K : mt_C} {fu : Nat} {r : Int32} {σf : mt_St} (hQ : mt_R K (some .int) (some (.int r)) σf) : ∀ (n : Nat) (σ : mt_St) (x1 : Int32) (x3 : Int32), mt_V K cX5_feed RX5 4 2 σ 40 [(0, .ref (mt_adr (kG K) 0)), (1, .int x1), (3, .int x3)] [] (bX5_feed_40 fu n σ x1 x3 = some (r, σf)) := by
  intro n
  induction n with
  | zero => intro σ x1 x3; intro hP; unfold bX5_feed_40 at hP; cases hP
  | succ n ih =>
    intro σ x1 x3
    unfold bX5_feed_40
    refine mv_iload_n 2 dX5_feed_40 rfl rfl ?_
    refine mv_if_lt 64 dX5_feed_41 (by decide) ?_ ?_
    · refine mv_aload_n 0 dX5_feed_64 rfl rfl ?_
      refine mg_X5_9 fl_X5_53 dX5_feed_65 ?_
      refine mg_X0_1 fl_X5_238 dX5_feed_68 ?_
      exact mv_iret hQ dX5_feed_71
    · refine mv_aload_n 0 dX5_feed_44 rfl rfl ?_
      refine mg_X5_9 fl_X5_53 dX5_feed_45 ?_
      refine mv_iload_n 1 dX5_feed_48 rfl rfl ?_
      refine mv_bipush (v := 8) dX5_feed_49 bp_8 ?_
      refine mv_iload_n 2 dX5_feed_51 rfl rfl ?_
      refine mv_imul dX5_feed_52 ?_
      refine mv_iushr dX5_feed_53 ?_
      refine mv_i2b dX5_feed_54 ?_
      refine mv_cVwv (As := [.int ((Int32.toInt8 ((Int32.toUInt32 x1 >>> (Int32.toUInt32 ((8 : Int32) * x3) &&& Int32.toUInt32 31)).toInt32)).toInt32)]) (st := []) cal_X0_take ins_X0_take ml_X5_241 rfl (by decide) rfl rfl (by decide) rfl (Nat.le_of_ble_eq_true rfl) dX5_feed_55 (fun r s h => co_X0_take h) (fun r1 s2 => ?_)
      refine mv_iinc (k0 := 2) (v := x3 + -1) (lv' := [(0, .ref (mt_adr (kG K) 0)), (1, .int x1), (3, .int (x3 + -1))]) [1, 2, 0] dX5_feed_58 rfl (mt_inc ic_m1) (by decide) rfl ?_
      refine mv_goto 40 dX5_feed_61 (by decide) ?_
      exact ih s2 x1 (x3 + -1)
def bX5_feed_10 (fu : Nat) (σ : mt_St) : Option (Int32 × mt_St) :=
  mt_call (fX5_finding fu σ (0 : Int32)) fun r1 s2 =>
  some (r1, s2)
set_option maxHeartbeats 4000000 in
set_option maxRecDepth 20000 in
theorem vX5_feed_10 {K : mt_C} {fu : Nat} {r : Int32} {σf : mt_St} (hQ : mt_R K (some .int) (some (.int r)) σf) : ∀ (σ : mt_St), mt_V K cX5_feed RX5 4 2 σ 10 [(0, .ref (mt_adr (kG K) 0))] [] (bX5_feed_10 fu σ = some (r, σf)) := by
  intro σ
  unfold bX5_feed_10
  refine mv_aload_n 0 dX5_feed_10 rfl rfl ?_
  refine mv_iconst (v := 0) dX5_feed_11 ic_0 ?_
  refine mv_cVwi (As := [.int (0 : Int32)]) (st := []) cal_X5_finding ins_X5_finding ml_X5_71 rfl (by decide) rfl rfl (by decide) rfl (Nat.le_of_ble_eq_true rfl) dX5_feed_12 (fun r s h => co_X5_finding h) (fun r1 s2 => ?_)
  exact mv_iret hQ dX5_feed_15
def fX5_feed (fu : Nat) (σ : mt_St) (a1 : Int32) (a2 : Int32) : Option (Int32 × mt_St) :=
  if a2 < (1 : Int32) then
    bX5_feed_10 fu σ
  else
    if a2 ≤ (4 : Int32) then
      if ((σ 44 1) + a2) ≤ (120 : Int32) then
        bX5_feed_40 fu fu σ a1 (a2 - (1 : Int32))
      else
        mt_call (fX5_finding fu σ (1 : Int32)) fun r1 s2 =>
        some (r1, s2)
    else
      bX5_feed_10 fu σ
set_option maxHeartbeats 4000000 in
set_option maxRecDepth 20000 in
theorem vX5_feed {K : mt_C} {fu : Nat} {σ : mt_St} {a1 : Int32} {a2 : Int32} {r : Int32} {σf : mt_St} (hQ : mt_R K (some .int) (some (.int r)) σf) : mt_V K cX5_feed RX5 4 2 σ 0 [(0, .ref (mt_adr (kG K) 0)), (1, .int a1), (2, .int a2)] [] (fX5_feed fu σ a1 a2 = some (r, σf)) := by
  unfold fX5_feed
  refine mv_iload_n 2 dX5_feed_0 rfl rfl ?_
  refine mv_iconst (v := 1) dX5_feed_1 ic_1 ?_
  refine mv_icmp_lt 10 dX5_feed_2 (by decide) ?_ ?_
  · refine mv_sub (lv' := [(0, .ref (mt_adr (kG K) 0))]) [0] rfl ?_
    exact vX5_feed_10 hQ σ
  · refine mv_iload_n 2 dX5_feed_5 rfl rfl ?_
    refine mv_iconst (v := 4) dX5_feed_6 ic_4 ?_
    refine mv_icmp_le 16 dX5_feed_7 (by decide) ?_ ?_
    · refine mv_aload_n 0 dX5_feed_16 rfl rfl ?_
      refine mg_X5_9 fl_X5_53 dX5_feed_17 ?_
      refine mg_X0_1 fl_X5_238 dX5_feed_20 ?_
      refine mv_iload_n 2 dX5_feed_23 rfl rfl ?_
      refine mv_iadd dX5_feed_24 ?_
      refine mv_bipush (v := 120) dX5_feed_25 bp_120 ?_
      refine mv_icmp_le 36 dX5_feed_27 (by decide) ?_ ?_
      · refine mv_iload_n 2 dX5_feed_36 rfl rfl ?_
        refine mv_iconst (v := 1) dX5_feed_37 ic_1 ?_
        refine mv_isub dX5_feed_38 ?_
        refine mv_istore_n (lv' := [(0, .ref (mt_adr (kG K) 0)), (1, .int a1), (3, .int (a2 - (1 : Int32)))]) [1, 2, 0] dX5_feed_39 rfl (by decide) rfl ?_
        exact vX5_feed_40 hQ fu σ a1 (a2 - (1 : Int32))
      · refine mv_aload_n 0 dX5_feed_30 rfl rfl ?_
        refine mv_iconst (v := 1) dX5_feed_31 ic_1 ?_
        refine mv_cVwi (As := [.int (1 : Int32)]) (st := []) cal_X5_finding ins_X5_finding ml_X5_71 rfl (by decide) rfl rfl (by decide) rfl (Nat.le_of_ble_eq_true rfl) dX5_feed_32 (fun r s h => co_X5_finding h) (fun r1 s2 => ?_)
        exact mv_iret hQ dX5_feed_35
    · refine mv_sub (lv' := [(0, .ref (mt_adr (kG K) 0))]) [0] rfl ?_
      exact vX5_feed_10 hQ σ
theorem co_X5_feed {l : Launch} {G : mt_G} {fu : Nat} {σ : mt_St} {a1 : Int32} {a2 : Int32} {r : Int32} {σf : mt_St}  (h : fX5_feed fu σ a1 a2 = some (r, σf)) : mt_Con l G yX5_feed cX5_feed 4 (some .int) 2 [.ref (mt_adr G 0), .int a1, .int a2] σ (some (.int r)) σf :=
  mt_con (by decide) (Nat.le_of_ble_eq_true rfl) (fun K hl hG hQ => by subst hl; subst hG; exact fun _ => vX5_feed  hQ h)
theorem dX5_wipe_0 : decode cX5_wipe 0 = .ok (.aload_n 0, 1) := by decide +kernel
theorem dX5_wipe_1 : decode cX5_wipe 1 = .ok (.getfield 53, 3) := by decide +kernel
theorem dX5_wipe_4 : decode cX5_wipe 4 = .ok (.getfield 238, 3) := by decide +kernel
theorem dX5_wipe_7 : decode cX5_wipe 7 = .ok (.istore_n 1, 1) := by decide +kernel
theorem dX5_wipe_8 : decode cX5_wipe 8 = .ok (.aload_n 0, 1) := by decide +kernel
theorem dX5_wipe_9 : decode cX5_wipe 9 = .ok (.getfield 53, 3) := by decide +kernel
theorem dX5_wipe_12 : decode cX5_wipe 12 = .ok (.iconst 0, 1) := by decide +kernel
theorem dX5_wipe_13 : decode cX5_wipe 13 = .ok (.putfield 238, 3) := by decide +kernel
theorem dX5_wipe_16 : decode cX5_wipe 16 = .ok (.iload_n 1, 1) := by decide +kernel
theorem dX5_wipe_17 : decode cX5_wipe 17 = .ok (.ireturn, 1) := by decide +kernel
def fX5_wipe (fu : Nat) (σ : mt_St) : Option (Int32 × mt_St) :=
  mt_bnd (mt_up σ 44 1 (0 : Int32)) fun s1 =>
  some ((σ 44 1), s1)
set_option maxHeartbeats 4000000 in
set_option maxRecDepth 20000 in
theorem vX5_wipe {K : mt_C} {fu : Nat} {σ : mt_St} {r : Int32} {σf : mt_St} (hQ : mt_R K (some .int) (some (.int r)) σf) : mt_V K cX5_wipe RX5 2 0 σ 0 [(0, .ref (mt_adr (kG K) 0))] [] (fX5_wipe fu σ = some (r, σf)) := by
  unfold fX5_wipe
  refine mv_aload_n 0 dX5_wipe_0 rfl rfl ?_
  refine mg_X5_9 fl_X5_53 dX5_wipe_1 ?_
  refine mg_X0_1 fl_X5_238 dX5_wipe_4 ?_
  refine mv_istore_n (lv' := [(0, .ref (mt_adr (kG K) 0)), (1, .int (σ 44 1))]) [1, 0] dX5_wipe_7 rfl (by decide) rfl ?_
  refine mv_aload_n 0 dX5_wipe_8 rfl rfl ?_
  refine mg_X5_9 fl_X5_53 dX5_wipe_9 ?_
  refine mv_iconst (v := 0) dX5_wipe_12 ic_0 ?_
  refine mp_X0_1 fl_X5_238 dX5_wipe_13 (fun s1 => ?_)
  refine mv_iload_n 1 dX5_wipe_16 rfl rfl ?_
  exact mv_iret hQ dX5_wipe_17
theorem co_X5_wipe {l : Launch} {G : mt_G} {fu : Nat} {σ : mt_St} {r : Int32} {σf : mt_St}  (h : fX5_wipe fu σ = some (r, σf)) : mt_Con l G yX5_wipe cX5_wipe 2 (some .int) 0 [.ref (mt_adr G 0)] σ (some (.int r)) σf :=
  mt_con (by decide) (Nat.le_of_ble_eq_true rfl) (fun K hl hG hQ => by subst hl; subst hG; exact fun _ => vX5_wipe  hQ h)
theorem dX5_text_0 : decode cX5_text 0 = .ok (.aload_n 0, 1) := by decide +kernel
theorem dX5_text_1 : decode cX5_text 1 = .ok (.getfield 23, 3) := by decide +kernel
theorem dX5_text_4 : decode cX5_text 4 = .ok (.aload_n 0, 1) := by decide +kernel
theorem dX5_text_5 : decode cX5_text 5 = .ok (.getfield 10, 3) := by decide +kernel
theorem dX5_text_8 : decode cX5_text 8 = .ok (.invokevirtual 168, 3) := by decide +kernel
theorem dX5_text_11 : decode cX5_text 11 = .ok (.aload_n 0, 1) := by decide +kernel
theorem dX5_text_12 : decode cX5_text 12 = .ok (.getfield 53, 3) := by decide +kernel
theorem dX5_text_15 : decode cX5_text 15 = .ok (.aload_n 0, 1) := by decide +kernel
theorem dX5_text_16 : decode cX5_text 16 = .ok (.getfield 23, 3) := by decide +kernel
theorem dX5_text_19 : decode cX5_text 19 = .ok (.invokevirtual 245, 3) := by decide +kernel
theorem dX5_text_22 : decode cX5_text 22 = .ok (.istore_n 1, 1) := by decide +kernel
theorem dX5_text_23 : decode cX5_text 23 = .ok (.aload_n 0, 1) := by decide +kernel
theorem dX5_text_24 : decode cX5_text 24 = .ok (.getfield 53, 3) := by decide +kernel
theorem dX5_text_27 : decode cX5_text 27 = .ok (.iconst 0, 1) := by decide +kernel
theorem dX5_text_28 : decode cX5_text 28 = .ok (.putfield 238, 3) := by decide +kernel
theorem dX5_text_31 : decode cX5_text 31 = .ok (.iload_n 1, 1) := by decide +kernel
theorem dX5_text_32 : decode cX5_text 32 = .ok (.ifCond .lt 14, 3) := by decide +kernel
theorem dX5_text_35 : decode cX5_text 35 = .ok (.aload_n 0, 1) := by decide +kernel
theorem dX5_text_36 : decode cX5_text 36 = .ok (.getfield 10, 3) := by decide +kernel
theorem dX5_text_39 : decode cX5_text 39 = .ok (.aload_n 0, 1) := by decide +kernel
theorem dX5_text_40 : decode cX5_text 40 = .ok (.getfield 23, 3) := by decide +kernel
theorem dX5_text_43 : decode cX5_text 43 = .ok (.invokevirtual 168, 3) := by decide +kernel
theorem dX5_text_46 : decode cX5_text 46 = .ok (.iload_n 1, 1) := by decide +kernel
theorem dX5_text_47 : decode cX5_text 47 = .ok (.ireturn, 1) := by decide +kernel
def bX5_text_46 (fu : Nat) (σ : mt_St) (x1 : Int32) : Option (Int32 × mt_St) :=
  some (x1, σ)
set_option maxHeartbeats 4000000 in
set_option maxRecDepth 20000 in
theorem vX5_text_46 {K : mt_C} {fu : Nat} {r : Int32} {σf : mt_St} (hQ : mt_R K (some .int) (some (.int r)) σf) : ∀ (σ : mt_St) (x1 : Int32), mt_V K cX5_text RX5 2 8 σ 46 [(1, .int x1)] [] (bX5_text_46 fu σ x1 = some (r, σf)) := by
  intro σ x1
  unfold bX5_text_46
  refine mv_iload_n 0 dX5_text_46 rfl rfl ?_
  exact mv_iret hQ dX5_text_47
def fX5_text (fu : Nat) (σ : mt_St) : Option (Int32 × mt_St) :=
  mt_call (fX4_become fu σ 25 1) fun _ s2 =>
  mt_call (fX0_readInto fu s2 25) fun r3 s4 =>
  mt_bnd (mt_up s4 44 1 (0 : Int32)) fun s5 =>
  if r3 < 0 then
    bX5_text_46 fu s5 r3
  else
    mt_call (fX4_become fu s5 1 25) fun _ s7 =>
    bX5_text_46 fu s7 r3
set_option maxHeartbeats 4000000 in
set_option maxRecDepth 20000 in
theorem vX5_text {K : mt_C} {fu : Nat} {σ : mt_St} {r : Int32} {σf : mt_St} (hQ : mt_R K (some .int) (some (.int r)) σf) : mt_V K cX5_text RX5 2 8 σ 0 [(0, .ref (mt_adr (kG K) 0))] [] (fX5_text fu σ = some (r, σf)) := by
  unfold fX5_text
  refine mv_aload_n 0 dX5_text_0 rfl rfl ?_
  refine mg_X5_3 fl_X5_23 dX5_text_1 ?_
  refine mv_aload_n 0 dX5_text_4 rfl rfl ?_
  refine mg_X5_0 fl_X5_10 dX5_text_5 ?_
  refine mv_cVwv (As := [.ref (mt_adr (kG K) 1)]) (st := []) cal_X4_become ins_X4_become ml_X5_168 rfl (by decide) rfl rfl (by decide) rfl (Nat.le_of_ble_eq_true rfl) dX5_text_8 (fun r s h => co_X4_become rfl rfl h) (fun r1 s2 => ?_)
  refine mv_aload_n 0 dX5_text_11 rfl rfl ?_
  refine mg_X5_9 fl_X5_53 dX5_text_12 ?_
  refine mv_aload_n 0 dX5_text_15 rfl rfl ?_
  refine mg_X5_3 fl_X5_23 dX5_text_16 ?_
  refine mv_cVwi (As := [.ref (mt_adr (kG K) 25)]) (st := []) cal_X0_readInto ins_X0_readInto ml_X5_245 rfl (by decide) rfl rfl (by decide) rfl (Nat.le_of_ble_eq_true rfl) dX5_text_19 (fun r s h => co_X0_readInto rfl h) (fun r3 s4 => ?_)
  refine mv_istore_n (lv' := [(0, .ref (mt_adr (kG K) 0)), (1, .int r3)]) [1, 0] dX5_text_22 rfl (by decide) rfl ?_
  refine mv_aload_n 0 dX5_text_23 rfl rfl ?_
  refine mg_X5_9 fl_X5_53 dX5_text_24 ?_
  refine mv_iconst (v := 0) dX5_text_27 ic_0 ?_
  refine mp_X0_1 fl_X5_238 dX5_text_28 (fun s5 => ?_)
  refine mv_iload_n 1 dX5_text_31 rfl rfl ?_
  refine mv_if_lt 46 dX5_text_32 (by decide) ?_ ?_
  · refine mv_sub (lv' := [(1, .int r3)]) [1] rfl ?_
    exact vX5_text_46 hQ s5 r3
  · refine mv_aload_n 0 dX5_text_35 rfl rfl ?_
    refine mg_X5_0 fl_X5_10 dX5_text_36 ?_
    refine mv_aload_n 0 dX5_text_39 rfl rfl ?_
    refine mg_X5_3 fl_X5_23 dX5_text_40 ?_
    refine mv_cVwv (As := [.ref (mt_adr (kG K) 25)]) (st := []) cal_X4_become ins_X4_become ml_X5_168 rfl (by decide) rfl rfl (by decide) rfl (Nat.le_of_ble_eq_true rfl) dX5_text_43 (fun r s h => co_X4_become rfl rfl h) (fun r6 s7 => ?_)
    refine mv_sub (lv' := [(1, .int r3)]) [1] rfl ?_
    exact vX5_text_46 hQ s7 r3
theorem co_X5_text {l : Launch} {G : mt_G} {fu : Nat} {σ : mt_St} {r : Int32} {σf : mt_St}  (h : fX5_text fu σ = some (r, σf)) : mt_Con l G yX5_text cX5_text 2 (some .int) 8 [.ref (mt_adr G 0)] σ (some (.int r)) σf :=
  mt_con (by decide) (Nat.le_of_ble_eq_true rfl) (fun K hl hG hQ => by subst hl; subst hG; exact fun _ => vX5_text  hQ h)
theorem dX5_hold_0 : decode cX5_hold 0 = .ok (.iload_n 1, 1) := by decide +kernel
theorem dX5_hold_1 : decode cX5_hold 1 = .ok (.bipush 9, 2) := by decide +kernel
theorem dX5_hold_3 : decode cX5_hold 3 = .ok (.invokestatic 67, 3) := by decide +kernel
theorem dX5_hold_6 : decode cX5_hold 6 = .ok (.ifCond .eq 16, 3) := by decide +kernel
theorem dX5_hold_9 : decode cX5_hold 9 = .ok (.iload_n 2, 1) := by decide +kernel
theorem dX5_hold_10 : decode cX5_hold 10 = .ok (.iconst (-1), 1) := by decide +kernel
theorem dX5_hold_11 : decode cX5_hold 11 = .ok (.if_icmp .eq 17, 3) := by decide +kernel
theorem dX5_hold_14 : decode cX5_hold 14 = .ok (.aload_n 0, 1) := by decide +kernel
theorem dX5_hold_15 : decode cX5_hold 15 = .ok (.iload_n 2, 1) := by decide +kernel
theorem dX5_hold_16 : decode cX5_hold 16 = .ok (.invokevirtual 98, 3) := by decide +kernel
theorem dX5_hold_19 : decode cX5_hold 19 = .ok (.ifCond .ne 9, 3) := by decide +kernel
theorem dX5_hold_22 : decode cX5_hold 22 = .ok (.aload_n 0, 1) := by decide +kernel
theorem dX5_hold_23 : decode cX5_hold 23 = .ok (.iconst 0, 1) := by decide +kernel
theorem dX5_hold_24 : decode cX5_hold 24 = .ok (.invokevirtual 71, 3) := by decide +kernel
theorem dX5_hold_27 : decode cX5_hold 27 = .ok (.ireturn, 1) := by decide +kernel
theorem dX5_hold_28 : decode cX5_hold 28 = .ok (.aload_n 0, 1) := by decide +kernel
theorem dX5_hold_29 : decode cX5_hold 29 = .ok (.getfield 10, 3) := by decide +kernel
theorem dX5_hold_32 : decode cX5_hold 32 = .ok (.getfield 249, 3) := by decide +kernel
theorem dX5_hold_35 : decode cX5_hold 35 = .ok (.iload_n 1, 1) := by decide +kernel
theorem dX5_hold_36 : decode cX5_hold 36 = .ok (.iload_n 2, 1) := by decide +kernel
theorem dX5_hold_37 : decode cX5_hold 37 = .ok (.iastore, 1) := by decide +kernel
theorem dX5_hold_38 : decode cX5_hold 38 = .ok (.iconst 1, 1) := by decide +kernel
theorem dX5_hold_39 : decode cX5_hold 39 = .ok (.ireturn, 1) := by decide +kernel
def bX5_hold_28 (fu : Nat) (σ : mt_St) (x1 : Int32) (x2 : Int32) : Option (Int32 × mt_St) :=
  mt_chk (mt_in x1 10) <|
  mt_bnd (mt_up σ (1 + 3) (Int32.toNatClampNeg x1) x2) fun s1 =>
  some ((1 : Int32), s1)
set_option maxHeartbeats 4000000 in
set_option maxRecDepth 20000 in
theorem vX5_hold_28 {K : mt_C} {fu : Nat} {r : Int32} {σf : mt_St} (hQ : mt_R K (some .int) (some (.int r)) σf) : ∀ (σ : mt_St) (x1 : Int32) (x2 : Int32), mt_V K cX5_hold RX5 3 2 σ 28 [(0, .ref (mt_adr (kG K) 0)), (1, .int x1), (2, .int x2)] [] (bX5_hold_28 fu σ x1 x2 = some (r, σf)) := by
  intro σ x1 x2
  unfold bX5_hold_28
  refine mv_aload_n 0 dX5_hold_28 rfl rfl ?_
  refine mg_X5_0 fl_X5_10 dX5_hold_29 ?_
  refine mg_X4_8 rfl fl_X5_249 dX5_hold_32 ?_
  refine mv_iload_n 1 dX5_hold_35 rfl rfl ?_
  refine mv_iload_n 2 dX5_hold_36 rfl rfl ?_
  refine mv_iast 10 (kd_w3 rfl) (ln_w3 rfl) dX5_hold_37 (fun s1 => ?_)
  refine mv_iconst (v := 1) dX5_hold_38 ic_1 ?_
  exact mv_iret hQ dX5_hold_39
def bX5_hold_22 (fu : Nat) (σ : mt_St) : Option (Int32 × mt_St) :=
  mt_call (fX5_finding fu σ (0 : Int32)) fun r1 s2 =>
  some (r1, s2)
set_option maxHeartbeats 4000000 in
set_option maxRecDepth 20000 in
theorem vX5_hold_22 {K : mt_C} {fu : Nat} {r : Int32} {σf : mt_St} (hQ : mt_R K (some .int) (some (.int r)) σf) : ∀ (σ : mt_St), mt_V K cX5_hold RX5 3 2 σ 22 [(0, .ref (mt_adr (kG K) 0))] [] (bX5_hold_22 fu σ = some (r, σf)) := by
  intro σ
  unfold bX5_hold_22
  refine mv_aload_n 0 dX5_hold_22 rfl rfl ?_
  refine mv_iconst (v := 0) dX5_hold_23 ic_0 ?_
  refine mv_cVwi (As := [.int (0 : Int32)]) (st := []) cal_X5_finding ins_X5_finding ml_X5_71 rfl (by decide) rfl rfl (by decide) rfl (Nat.le_of_ble_eq_true rfl) dX5_hold_24 (fun r s h => co_X5_finding h) (fun r1 s2 => ?_)
  exact mv_iret hQ dX5_hold_27
def fX5_hold (fu : Nat) (σ : mt_St) (a1 : Int32) (a2 : Int32) : Option (Int32 × mt_St) :=
  mt_ask (fX5_isWithin fu a1 (9 : Int32)) fun r1 =>
  if r1 = 0 then
    bX5_hold_22 fu σ
  else
    if a2 = (-1 : Int32) then
      bX5_hold_28 fu σ a1 a2
    else
      mt_ask (fX5_isTreaty fu σ a2) fun r2 =>
      if r2 = 0 then
        bX5_hold_22 fu σ
      else
        bX5_hold_28 fu σ a1 a2
set_option maxHeartbeats 4000000 in
set_option maxRecDepth 20000 in
theorem vX5_hold {K : mt_C} {fu : Nat} {σ : mt_St} {a1 : Int32} {a2 : Int32} {r : Int32} {σf : mt_St} (hQ : mt_R K (some .int) (some (.int r)) σf) : mt_V K cX5_hold RX5 3 2 σ 0 [(0, .ref (mt_adr (kG K) 0)), (1, .int a1), (2, .int a2)] [] (fX5_hold fu σ a1 a2 = some (r, σf)) := by
  unfold fX5_hold
  refine mv_iload_n 1 dX5_hold_0 rfl rfl ?_
  refine mv_bipush (v := 9) dX5_hold_1 bp_9 ?_
  refine mv_cSri (As := [.int a1, .int (9 : Int32)]) (st := []) cal_X5_isWithin sta_X5_isWithin ml_X5_67 rfl (by decide) rfl (Nat.le_of_ble_eq_true rfl) dX5_hold_3 (fun r h => co_X5_isWithin h) (fun r1 => ?_)
  refine mv_if_eq 22 dX5_hold_6 (by decide) ?_ ?_
  · refine mv_sub (lv' := [(0, .ref (mt_adr (kG K) 0))]) [0] rfl ?_
    exact vX5_hold_22 hQ σ
  · refine mv_iload_n 2 dX5_hold_9 rfl rfl ?_
    refine mv_iconst (v := -1) dX5_hold_10 ic_m1 ?_
    refine mv_icmp_eq 28 dX5_hold_11 (by decide) ?_ ?_
    · exact vX5_hold_28 hQ σ a1 a2
    · refine mv_aload_n 0 dX5_hold_14 rfl rfl ?_
      refine mv_iload_n 2 dX5_hold_15 rfl rfl ?_
      refine mv_cVri (As := [.int a2]) (st := []) cal_X5_isTreaty ins_X5_isTreaty ml_X5_98 rfl (by decide) rfl rfl (by decide) rfl (Nat.le_of_ble_eq_true rfl) dX5_hold_16 (fun r h => co_X5_isTreaty h) (fun r2 => ?_)
      refine mv_if_ne 28 dX5_hold_19 (by decide) ?_ ?_
      · exact vX5_hold_28 hQ σ a1 a2
      · refine mv_sub (lv' := [(0, .ref (mt_adr (kG K) 0))]) [0] rfl ?_
        exact vX5_hold_22 hQ σ
theorem co_X5_hold {l : Launch} {G : mt_G} {fu : Nat} {σ : mt_St} {a1 : Int32} {a2 : Int32} {r : Int32} {σf : mt_St}  (h : fX5_hold fu σ a1 a2 = some (r, σf)) : mt_Con l G yX5_hold cX5_hold 3 (some .int) 2 [.ref (mt_adr G 0), .int a1, .int a2] σ (some (.int r)) σf :=
  mt_con (by decide) (Nat.le_of_ble_eq_true rfl) (fun K hl hG hQ => by subst hl; subst hG; exact fun _ => vX5_hold  hQ h)
theorem dX5_as_0 : decode cX5_as 0 = .ok (.iload_n 1, 1) := by decide +kernel
theorem dX5_as_1 : decode cX5_as 1 = .ok (.bipush 9, 2) := by decide +kernel
theorem dX5_as_3 : decode cX5_as 3 = .ok (.invokestatic 67, 3) := by decide +kernel
theorem dX5_as_6 : decode cX5_as 6 = .ok (.ifCond .eq 12, 3) := by decide +kernel
theorem dX5_as_9 : decode cX5_as 9 = .ok (.iload_n 2, 1) := by decide +kernel
theorem dX5_as_10 : decode cX5_as 10 = .ok (.bipush 6, 2) := by decide +kernel
theorem dX5_as_12 : decode cX5_as 12 = .ok (.invokestatic 67, 3) := by decide +kernel
theorem dX5_as_15 : decode cX5_as 15 = .ok (.ifCond .ne 9, 3) := by decide +kernel
theorem dX5_as_18 : decode cX5_as 18 = .ok (.aload_n 0, 1) := by decide +kernel
theorem dX5_as_19 : decode cX5_as 19 = .ok (.iconst 0, 1) := by decide +kernel
theorem dX5_as_20 : decode cX5_as 20 = .ok (.invokevirtual 71, 3) := by decide +kernel
theorem dX5_as_23 : decode cX5_as 23 = .ok (.ireturn, 1) := by decide +kernel
theorem dX5_as_24 : decode cX5_as 24 = .ok (.aload_n 0, 1) := by decide +kernel
theorem dX5_as_25 : decode cX5_as 25 = .ok (.getfield 10, 3) := by decide +kernel
theorem dX5_as_28 : decode cX5_as 28 = .ok (.getfield 249, 3) := by decide +kernel
theorem dX5_as_31 : decode cX5_as 31 = .ok (.iload_n 1, 1) := by decide +kernel
theorem dX5_as_32 : decode cX5_as 32 = .ok (.iaload, 1) := by decide +kernel
theorem dX5_as_33 : decode cX5_as 33 = .ok (.istore_n 3, 1) := by decide +kernel
theorem dX5_as_34 : decode cX5_as 34 = .ok (.aload_n 0, 1) := by decide +kernel
theorem dX5_as_35 : decode cX5_as 35 = .ok (.iload_n 3, 1) := by decide +kernel
theorem dX5_as_36 : decode cX5_as 36 = .ok (.invokevirtual 98, 3) := by decide +kernel
theorem dX5_as_39 : decode cX5_as 39 = .ok (.ifCond .ne 9, 3) := by decide +kernel
theorem dX5_as_42 : decode cX5_as 42 = .ok (.aload_n 0, 1) := by decide +kernel
theorem dX5_as_43 : decode cX5_as 43 = .ok (.iconst 5, 1) := by decide +kernel
theorem dX5_as_44 : decode cX5_as 44 = .ok (.invokevirtual 71, 3) := by decide +kernel
theorem dX5_as_47 : decode cX5_as 47 = .ok (.ireturn, 1) := by decide +kernel
theorem dX5_as_48 : decode cX5_as 48 = .ok (.aload_n 0, 1) := by decide +kernel
theorem dX5_as_49 : decode cX5_as 49 = .ok (.getfield 10, 3) := by decide +kernel
theorem dX5_as_52 : decode cX5_as 52 = .ok (.getfield 102, 3) := by decide +kernel
theorem dX5_as_55 : decode cX5_as 55 = .ok (.iload_n 3, 1) := by decide +kernel
theorem dX5_as_56 : decode cX5_as 56 = .ok (.aaload, 1) := by decide +kernel
theorem dX5_as_57 : decode cX5_as 57 = .ok (.iload_n 2, 1) := by decide +kernel
theorem dX5_as_58 : decode cX5_as 58 = .ok (.invokevirtual 252, 3) := by decide +kernel
theorem dX5_as_61 : decode cX5_as 61 = .ok (.ifCond .eq 7, 3) := by decide +kernel
theorem dX5_as_64 : decode cX5_as 64 = .ok (.iload_n 3, 1) := by decide +kernel
theorem dX5_as_65 : decode cX5_as 65 = .ok (.goto 8, 3) := by decide +kernel
theorem dX5_as_68 : decode cX5_as 68 = .ok (.aload_n 0, 1) := by decide +kernel
theorem dX5_as_69 : decode cX5_as 69 = .ok (.iconst 2, 1) := by decide +kernel
theorem dX5_as_70 : decode cX5_as 70 = .ok (.invokevirtual 71, 3) := by decide +kernel
theorem dX5_as_73 : decode cX5_as 73 = .ok (.ireturn, 1) := by decide +kernel
def bX5_as_73 (fu : Nat) (σ : mt_St) (y0 : Int32) : Option (Int32 × mt_St) :=
  some (y0, σ)
set_option maxHeartbeats 4000000 in
set_option maxRecDepth 20000 in
theorem vX5_as_73 {K : mt_C} {fu : Nat} {r : Int32} {σf : mt_St} (hQ : mt_R K (some .int) (some (.int r)) σf) : ∀ (σ : mt_St) (y0 : Int32), mt_V K cX5_as RX5 4 2 σ 73 [] [.int y0] (bX5_as_73 fu σ y0 = some (r, σf)) := by
  intro σ y0
  unfold bX5_as_73
  exact mv_iret hQ dX5_as_73
def bX5_as_18 (fu : Nat) (σ : mt_St) : Option (Int32 × mt_St) :=
  mt_call (fX5_finding fu σ (0 : Int32)) fun r1 s2 =>
  some (r1, s2)
set_option maxHeartbeats 4000000 in
set_option maxRecDepth 20000 in
theorem vX5_as_18 {K : mt_C} {fu : Nat} {r : Int32} {σf : mt_St} (hQ : mt_R K (some .int) (some (.int r)) σf) : ∀ (σ : mt_St), mt_V K cX5_as RX5 4 2 σ 18 [(0, .ref (mt_adr (kG K) 0))] [] (bX5_as_18 fu σ = some (r, σf)) := by
  intro σ
  unfold bX5_as_18
  refine mv_aload_n 0 dX5_as_18 rfl rfl ?_
  refine mv_iconst (v := 0) dX5_as_19 ic_0 ?_
  refine mv_cVwi (As := [.int (0 : Int32)]) (st := []) cal_X5_finding ins_X5_finding ml_X5_71 rfl (by decide) rfl rfl (by decide) rfl (Nat.le_of_ble_eq_true rfl) dX5_as_20 (fun r s h => co_X5_finding h) (fun r1 s2 => ?_)
  exact mv_iret hQ dX5_as_23
def fX5_as (fu : Nat) (σ : mt_St) (a1 : Int32) (a2 : Int32) : Option (Int32 × mt_St) :=
  mt_ask (fX5_isWithin fu a1 (9 : Int32)) fun r1 =>
  if r1 = 0 then
    bX5_as_18 fu σ
  else
    mt_ask (fX5_isWithin fu a2 (6 : Int32)) fun r2 =>
    if r2 = 0 then
      bX5_as_18 fu σ
    else
      mt_chk (mt_in a1 10) <|
      mt_ask (fX5_isTreaty fu σ (σ (1 + 3) (Int32.toNatClampNeg a1))) fun r3 =>
      if r3 = 0 then
        mt_call (fX5_finding fu σ (5 : Int32)) fun r8 s9 =>
        some (r8, s9)
      else
        mt_chk (mt_in (σ (1 + 3) (Int32.toNatClampNeg a1)) 8) <|
        mt_ask (fX3_isA fu σ ((1 + 2) + 2 + Int32.toNatClampNeg (σ (1 + 3) (Int32.toNatClampNeg a1))) a2) fun r5 =>
        if r5 = 0 then
          mt_call (fX5_finding fu σ (2 : Int32)) fun r6 s7 =>
          bX5_as_73 fu s7 r6
        else
          bX5_as_73 fu σ (σ (1 + 3) (Int32.toNatClampNeg a1))
set_option maxHeartbeats 4000000 in
set_option maxRecDepth 20000 in
theorem vX5_as {K : mt_C} {fu : Nat} {σ : mt_St} {a1 : Int32} {a2 : Int32} {r : Int32} {σf : mt_St} (hQ : mt_R K (some .int) (some (.int r)) σf) : mt_V K cX5_as RX5 4 2 σ 0 [(0, .ref (mt_adr (kG K) 0)), (1, .int a1), (2, .int a2)] [] (fX5_as fu σ a1 a2 = some (r, σf)) := by
  unfold fX5_as
  refine mv_iload_n 1 dX5_as_0 rfl rfl ?_
  refine mv_bipush (v := 9) dX5_as_1 bp_9 ?_
  refine mv_cSri (As := [.int a1, .int (9 : Int32)]) (st := []) cal_X5_isWithin sta_X5_isWithin ml_X5_67 rfl (by decide) rfl (Nat.le_of_ble_eq_true rfl) dX5_as_3 (fun r h => co_X5_isWithin h) (fun r1 => ?_)
  refine mv_if_eq 18 dX5_as_6 (by decide) ?_ ?_
  · refine mv_sub (lv' := [(0, .ref (mt_adr (kG K) 0))]) [0] rfl ?_
    exact vX5_as_18 hQ σ
  · refine mv_iload_n 2 dX5_as_9 rfl rfl ?_
    refine mv_bipush (v := 6) dX5_as_10 bp_6 ?_
    refine mv_cSri (As := [.int a2, .int (6 : Int32)]) (st := []) cal_X5_isWithin sta_X5_isWithin ml_X5_67 rfl (by decide) rfl (Nat.le_of_ble_eq_true rfl) dX5_as_12 (fun r h => co_X5_isWithin h) (fun r2 => ?_)
    refine mv_if_ne 24 dX5_as_15 (by decide) ?_ ?_
    · refine mv_aload_n 0 dX5_as_24 rfl rfl ?_
      refine mg_X5_0 fl_X5_10 dX5_as_25 ?_
      refine mg_X4_8 rfl fl_X5_249 dX5_as_28 ?_
      refine mv_iload_n 1 dX5_as_31 rfl rfl ?_
      refine mv_iald 10 (kd_w3 rfl) (ln_w3 rfl) dX5_as_32 ?_
      refine mv_istore_n (lv' := [(0, .ref (mt_adr (kG K) 0)), (2, .int a2), (3, .int (σ (1 + 3) (Int32.toNatClampNeg a1)))]) [1, 3, 0] dX5_as_33 rfl (by decide) rfl ?_
      refine mv_aload_n 0 dX5_as_34 rfl rfl ?_
      refine mv_iload_n 2 dX5_as_35 rfl rfl ?_
      refine mv_cVri (As := [.int (σ (1 + 3) (Int32.toNatClampNeg a1))]) (st := []) cal_X5_isTreaty ins_X5_isTreaty ml_X5_98 rfl (by decide) rfl rfl (by decide) rfl (Nat.le_of_ble_eq_true rfl) dX5_as_36 (fun r h => co_X5_isTreaty h) (fun r3 => ?_)
      refine mv_if_ne 48 dX5_as_39 (by decide) ?_ ?_
      · refine mv_aload_n 0 dX5_as_48 rfl rfl ?_
        refine mg_X5_0 fl_X5_10 dX5_as_49 ?_
        refine mg_X4_6 rfl fl_X5_102 dX5_as_52 ?_
        refine mv_iload_n 2 dX5_as_55 rfl rfl ?_
        refine mv_aaldT (kd_w2 rfl) (ln_w2 rfl) dX5_as_56 (fun h4 => ?_)
        refine mv_iload_n 1 dX5_as_57 rfl rfl ?_
        refine mv_cVri (As := [.int a2]) (st := []) cal_X3_isA ins_X3_isA ml_X5_252 (kd_tr (kd_w2 rfl) h4) (by decide) rfl rfl (by decide) rfl (Nat.le_of_ble_eq_true rfl) dX5_as_58 (fun r h => co_X3_isA (kd_tr (kd_w2 rfl) h4) h) (fun r5 => ?_)
        refine mv_if_eq 68 dX5_as_61 (by decide) ?_ ?_
        · refine mv_aload_n 0 dX5_as_68 rfl rfl ?_
          refine mv_iconst (v := 2) dX5_as_69 ic_2 ?_
          refine mv_cVwi (As := [.int (2 : Int32)]) (st := []) cal_X5_finding ins_X5_finding ml_X5_71 rfl (by decide) rfl rfl (by decide) rfl (Nat.le_of_ble_eq_true rfl) dX5_as_70 (fun r s h => co_X5_finding h) (fun r6 s7 => ?_)
          refine mv_sub (lv' := []) [] rfl ?_
          exact vX5_as_73 hQ s7 r6
        · refine mv_iload_n 2 dX5_as_64 rfl rfl ?_
          refine mv_goto 73 dX5_as_65 (by decide) ?_
          refine mv_sub (lv' := []) [] rfl ?_
          exact vX5_as_73 hQ σ (σ (1 + 3) (Int32.toNatClampNeg a1))
      · refine mv_aload_n 0 dX5_as_42 rfl rfl ?_
        refine mv_iconst (v := 5) dX5_as_43 ic_5 ?_
        refine mv_cVwi (As := [.int (5 : Int32)]) (st := []) cal_X5_finding ins_X5_finding ml_X5_71 rfl (by decide) rfl rfl (by decide) rfl (Nat.le_of_ble_eq_true rfl) dX5_as_44 (fun r s h => co_X5_finding h) (fun r8 s9 => ?_)
        exact mv_iret hQ dX5_as_47
    · refine mv_sub (lv' := [(0, .ref (mt_adr (kG K) 0))]) [0] rfl ?_
      exact vX5_as_18 hQ σ
theorem co_X5_as {l : Launch} {G : mt_G} {fu : Nat} {σ : mt_St} {a1 : Int32} {a2 : Int32} {r : Int32} {σf : mt_St}  (h : fX5_as fu σ a1 a2 = some (r, σf)) : mt_Con l G yX5_as cX5_as 4 (some .int) 2 [.ref (mt_adr G 0), .int a1, .int a2] σ (some (.int r)) σf :=
  mt_con (by decide) (Nat.le_of_ble_eq_true rfl) (fun K hl hG hQ => by subst hl; subst hG; exact fun _ => vX5_as  hQ h)
theorem dX5_sheet_0 : decode cX5_sheet 0 = .ok (.aload_n 0, 1) := by decide +kernel
theorem dX5_sheet_1 : decode cX5_sheet 1 = .ok (.iload_n 1, 1) := by decide +kernel
theorem dX5_sheet_2 : decode cX5_sheet 2 = .ok (.invokevirtual 255, 3) := by decide +kernel
theorem dX5_sheet_5 : decode cX5_sheet 5 = .ok (.ifCond .eq 25, 3) := by decide +kernel
theorem dX5_sheet_8 : decode cX5_sheet 8 = .ok (.iload_n 2, 1) := by decide +kernel
theorem dX5_sheet_9 : decode cX5_sheet 9 = .ok (.ifCond .eq 27, 3) := by decide +kernel
theorem dX5_sheet_12 : decode cX5_sheet 12 = .ok (.iload_n 2, 1) := by decide +kernel
theorem dX5_sheet_13 : decode cX5_sheet 13 = .ok (.bipush 8, 2) := by decide +kernel
theorem dX5_sheet_15 : decode cX5_sheet 15 = .ok (.if_icmp .eq 21, 3) := by decide +kernel
theorem dX5_sheet_18 : decode cX5_sheet 18 = .ok (.iload_n 2, 1) := by decide +kernel
theorem dX5_sheet_19 : decode cX5_sheet 19 = .ok (.bipush 16, 2) := by decide +kernel
theorem dX5_sheet_21 : decode cX5_sheet 21 = .ok (.if_icmp .eq 15, 3) := by decide +kernel
theorem dX5_sheet_24 : decode cX5_sheet 24 = .ok (.iload_n 2, 1) := by decide +kernel
theorem dX5_sheet_25 : decode cX5_sheet 25 = .ok (.bipush 32, 2) := by decide +kernel
theorem dX5_sheet_27 : decode cX5_sheet 27 = .ok (.if_icmp .eq 9, 3) := by decide +kernel
theorem dX5_sheet_30 : decode cX5_sheet 30 = .ok (.aload_n 0, 1) := by decide +kernel
theorem dX5_sheet_31 : decode cX5_sheet 31 = .ok (.iconst 0, 1) := by decide +kernel
theorem dX5_sheet_32 : decode cX5_sheet 32 = .ok (.invokevirtual 71, 3) := by decide +kernel
theorem dX5_sheet_35 : decode cX5_sheet 35 = .ok (.ireturn, 1) := by decide +kernel
theorem dX5_sheet_36 : decode cX5_sheet 36 = .ok (.iload_n 3, 1) := by decide +kernel
theorem dX5_sheet_37 : decode cX5_sheet 37 = .ok (.ifCond .ge 10, 3) := by decide +kernel
theorem dX5_sheet_40 : decode cX5_sheet 40 = .ok (.aload_n 0, 1) := by decide +kernel
theorem dX5_sheet_41 : decode cX5_sheet 41 = .ok (.bipush 6, 2) := by decide +kernel
theorem dX5_sheet_43 : decode cX5_sheet 43 = .ok (.invokevirtual 71, 3) := by decide +kernel
theorem dX5_sheet_46 : decode cX5_sheet 46 = .ok (.ireturn, 1) := by decide +kernel
theorem dX5_sheet_47 : decode cX5_sheet 47 = .ok (.iload_n 3, 1) := by decide +kernel
theorem dX5_sheet_48 : decode cX5_sheet 48 = .ok (.bipush 40, 2) := by decide +kernel
theorem dX5_sheet_50 : decode cX5_sheet 50 = .ok (.if_icmp .le 9, 3) := by decide +kernel
theorem dX5_sheet_53 : decode cX5_sheet 53 = .ok (.aload_n 0, 1) := by decide +kernel
theorem dX5_sheet_54 : decode cX5_sheet 54 = .ok (.iconst 0, 1) := by decide +kernel
theorem dX5_sheet_55 : decode cX5_sheet 55 = .ok (.invokevirtual 71, 3) := by decide +kernel
theorem dX5_sheet_58 : decode cX5_sheet 58 = .ok (.ireturn, 1) := by decide +kernel
theorem dX5_sheet_59 : decode cX5_sheet 59 = .ok (.aload_n 0, 1) := by decide +kernel
theorem dX5_sheet_60 : decode cX5_sheet 60 = .ok (.getfield 59, 3) := by decide +kernel
theorem dX5_sheet_63 : decode cX5_sheet 63 = .ok (.iload_n 1, 1) := by decide +kernel
theorem dX5_sheet_64 : decode cX5_sheet 64 = .ok (.aaload, 1) := by decide +kernel
theorem dX5_sheet_65 : decode cX5_sheet 65 = .ok (.iload_n 2, 1) := by decide +kernel
theorem dX5_sheet_66 : decode cX5_sheet 66 = .ok (.iload_n 3, 1) := by decide +kernel
theorem dX5_sheet_67 : decode cX5_sheet 67 = .ok (.invokevirtual 258, 3) := by decide +kernel
theorem dX5_sheet_70 : decode cX5_sheet 70 = .ok (.aload_n 0, 1) := by decide +kernel
theorem dX5_sheet_71 : decode cX5_sheet 71 = .ok (.getfield 59, 3) := by decide +kernel
theorem dX5_sheet_74 : decode cX5_sheet 74 = .ok (.iload_n 1, 1) := by decide +kernel
theorem dX5_sheet_75 : decode cX5_sheet 75 = .ok (.aaload, 1) := by decide +kernel
theorem dX5_sheet_76 : decode cX5_sheet 76 = .ok (.getfield 261, 3) := by decide +kernel
theorem dX5_sheet_79 : decode cX5_sheet 79 = .ok (.ireturn, 1) := by decide +kernel
def bX5_sheet_36 (fu : Nat) (σ : mt_St) (x1 : Int32) (x2 : Int32) (x3 : Int32) : Option (Int32 × mt_St) :=
  if 0 ≤ x3 then
    if x3 ≤ (40 : Int32) then
      mt_chk (mt_in x1 4) <|
      mt_call (fX1_begin fu σ (46 + 1 + Int32.toNatClampNeg x1) x2 x3) fun _ s3 =>
      mt_chk (mt_in x1 4) <|
      some ((s3 (46 + 1 + Int32.toNatClampNeg x1) 1), s3)
    else
      mt_call (fX5_finding fu σ (0 : Int32)) fun r5 s6 =>
      some (r5, s6)
  else
    mt_call (fX5_finding fu σ (6 : Int32)) fun r7 s8 =>
    some (r7, s8)
set_option maxHeartbeats 4000000 in
set_option maxRecDepth 20000 in
theorem vX5_sheet_36 {K : mt_C} {fu : Nat} {r : Int32} {σf : mt_St} (hQ : mt_R K (some .int) (some (.int r)) σf) : ∀ (σ : mt_St) (x1 : Int32) (x2 : Int32) (x3 : Int32), mt_V K cX5_sheet RX5 4 2 σ 36 [(0, .ref (mt_adr (kG K) 0)), (1, .int x1), (2, .int x2), (3, .int x3)] [] (bX5_sheet_36 fu σ x1 x2 x3 = some (r, σf)) := by
  intro σ x1 x2 x3
  unfold bX5_sheet_36
  refine mv_iload_n 3 dX5_sheet_36 rfl rfl ?_
  refine mv_if_ge 47 dX5_sheet_37 (by decide) ?_ ?_
  · refine mv_iload_n 3 dX5_sheet_47 rfl rfl ?_
    refine mv_bipush (v := 40) dX5_sheet_48 bp_40 ?_
    refine mv_icmp_le 59 dX5_sheet_50 (by decide) ?_ ?_
    · refine mv_aload_n 0 dX5_sheet_59 rfl rfl ?_
      refine mg_X5_10 fl_X5_59 dX5_sheet_60 ?_
      refine mv_iload_n 1 dX5_sheet_63 rfl rfl ?_
      refine mv_aaldS rfl rfl dX5_sheet_64 (fun h1 => ?_)
      refine mv_iload_n 2 dX5_sheet_65 rfl rfl ?_
      refine mv_iload_n 3 dX5_sheet_66 rfl rfl ?_
      refine mv_cVwv (As := [.int x2, .int x3]) (st := []) cal_X1_begin ins_X1_begin ml_X5_258 (kd_st rfl h1) (by decide) rfl rfl (by decide) rfl (Nat.le_of_ble_eq_true rfl) dX5_sheet_67 (fun r s h => co_X1_begin (kd_st rfl h1) h) (fun r2 s3 => ?_)
      refine mv_aload_n 0 dX5_sheet_70 rfl rfl ?_
      refine mg_X5_10 fl_X5_59 dX5_sheet_71 ?_
      refine mv_iload_n 1 dX5_sheet_74 rfl rfl ?_
      refine mv_aaldS rfl rfl dX5_sheet_75 (fun h4 => ?_)
      refine mg_X1_1 (kd_st rfl h4) fl_X5_261 dX5_sheet_76 ?_
      exact mv_iret hQ dX5_sheet_79
    · refine mv_aload_n 0 dX5_sheet_53 rfl rfl ?_
      refine mv_iconst (v := 0) dX5_sheet_54 ic_0 ?_
      refine mv_cVwi (As := [.int (0 : Int32)]) (st := []) cal_X5_finding ins_X5_finding ml_X5_71 rfl (by decide) rfl rfl (by decide) rfl (Nat.le_of_ble_eq_true rfl) dX5_sheet_55 (fun r s h => co_X5_finding h) (fun r5 s6 => ?_)
      exact mv_iret hQ dX5_sheet_58
  · refine mv_aload_n 0 dX5_sheet_40 rfl rfl ?_
    refine mv_bipush (v := 6) dX5_sheet_41 bp_6 ?_
    refine mv_cVwi (As := [.int (6 : Int32)]) (st := []) cal_X5_finding ins_X5_finding ml_X5_71 rfl (by decide) rfl rfl (by decide) rfl (Nat.le_of_ble_eq_true rfl) dX5_sheet_43 (fun r s h => co_X5_finding h) (fun r7 s8 => ?_)
    exact mv_iret hQ dX5_sheet_46
def bX5_sheet_30 (fu : Nat) (σ : mt_St) : Option (Int32 × mt_St) :=
  mt_call (fX5_finding fu σ (0 : Int32)) fun r1 s2 =>
  some (r1, s2)
set_option maxHeartbeats 4000000 in
set_option maxRecDepth 20000 in
theorem vX5_sheet_30 {K : mt_C} {fu : Nat} {r : Int32} {σf : mt_St} (hQ : mt_R K (some .int) (some (.int r)) σf) : ∀ (σ : mt_St), mt_V K cX5_sheet RX5 4 2 σ 30 [(0, .ref (mt_adr (kG K) 0))] [] (bX5_sheet_30 fu σ = some (r, σf)) := by
  intro σ
  unfold bX5_sheet_30
  refine mv_aload_n 0 dX5_sheet_30 rfl rfl ?_
  refine mv_iconst (v := 0) dX5_sheet_31 ic_0 ?_
  refine mv_cVwi (As := [.int (0 : Int32)]) (st := []) cal_X5_finding ins_X5_finding ml_X5_71 rfl (by decide) rfl rfl (by decide) rfl (Nat.le_of_ble_eq_true rfl) dX5_sheet_32 (fun r s h => co_X5_finding h) (fun r1 s2 => ?_)
  exact mv_iret hQ dX5_sheet_35
def fX5_sheet (fu : Nat) (σ : mt_St) (a1 : Int32) (a2 : Int32) (a3 : Int32) : Option (Int32 × mt_St) :=
  mt_ask (fX5_isSheet fu a1) fun r1 =>
  if r1 = 0 then
    bX5_sheet_30 fu σ
  else
    if a2 = 0 then
      bX5_sheet_36 fu σ a1 a2 a3
    else
      if a2 = (8 : Int32) then
        bX5_sheet_36 fu σ a1 a2 a3
      else
        if a2 = (16 : Int32) then
          bX5_sheet_36 fu σ a1 a2 a3
        else
          if a2 = (32 : Int32) then
            bX5_sheet_36 fu σ a1 a2 a3
          else
            bX5_sheet_30 fu σ
set_option maxHeartbeats 4000000 in
set_option maxRecDepth 20000 in
theorem vX5_sheet {K : mt_C} {fu : Nat} {σ : mt_St} {a1 : Int32} {a2 : Int32} {a3 : Int32} {r : Int32} {σf : mt_St} (hQ : mt_R K (some .int) (some (.int r)) σf) : mt_V K cX5_sheet RX5 4 2 σ 0 [(0, .ref (mt_adr (kG K) 0)), (1, .int a1), (2, .int a2), (3, .int a3)] [] (fX5_sheet fu σ a1 a2 a3 = some (r, σf)) := by
  unfold fX5_sheet
  refine mv_aload_n 0 dX5_sheet_0 rfl rfl ?_
  refine mv_iload_n 1 dX5_sheet_1 rfl rfl ?_
  refine mv_cVri (As := [.int a1]) (st := []) cal_X5_isSheet ins_X5_isSheet ml_X5_255 rfl (by decide) rfl rfl (by decide) rfl (Nat.le_of_ble_eq_true rfl) dX5_sheet_2 (fun r h => co_X5_isSheet h) (fun r1 => ?_)
  refine mv_if_eq 30 dX5_sheet_5 (by decide) ?_ ?_
  · refine mv_sub (lv' := [(0, .ref (mt_adr (kG K) 0))]) [0] rfl ?_
    exact vX5_sheet_30 hQ σ
  · refine mv_iload_n 2 dX5_sheet_8 rfl rfl ?_
    refine mv_if_eq 36 dX5_sheet_9 (by decide) ?_ ?_
    · exact vX5_sheet_36 hQ σ a1 a2 a3
    · refine mv_iload_n 2 dX5_sheet_12 rfl rfl ?_
      refine mv_bipush (v := 8) dX5_sheet_13 bp_8 ?_
      refine mv_icmp_eq 36 dX5_sheet_15 (by decide) ?_ ?_
      · exact vX5_sheet_36 hQ σ a1 a2 a3
      · refine mv_iload_n 2 dX5_sheet_18 rfl rfl ?_
        refine mv_bipush (v := 16) dX5_sheet_19 bp_16 ?_
        refine mv_icmp_eq 36 dX5_sheet_21 (by decide) ?_ ?_
        · exact vX5_sheet_36 hQ σ a1 a2 a3
        · refine mv_iload_n 2 dX5_sheet_24 rfl rfl ?_
          refine mv_bipush (v := 32) dX5_sheet_25 bp_32 ?_
          refine mv_icmp_eq 36 dX5_sheet_27 (by decide) ?_ ?_
          · exact vX5_sheet_36 hQ σ a1 a2 a3
          · refine mv_sub (lv' := [(0, .ref (mt_adr (kG K) 0))]) [0] rfl ?_
            exact vX5_sheet_30 hQ σ
theorem co_X5_sheet {l : Launch} {G : mt_G} {fu : Nat} {σ : mt_St} {a1 : Int32} {a2 : Int32} {a3 : Int32} {r : Int32} {σf : mt_St}  (h : fX5_sheet fu σ a1 a2 a3 = some (r, σf)) : mt_Con l G yX5_sheet cX5_sheet 4 (some .int) 2 [.ref (mt_adr G 0), .int a1, .int a2, .int a3] σ (some (.int r)) σf :=
  mt_con (by decide) (Nat.le_of_ble_eq_true rfl) (fun K hl hG hQ => by subst hl; subst hG; exact fun _ => vX5_sheet  hQ h)
theorem dX5_write_0 : decode cX5_write 0 = .ok (.aload_n 0, 1) := by decide +kernel
theorem dX5_write_1 : decode cX5_write 1 = .ok (.iload_n 1, 1) := by decide +kernel
theorem dX5_write_2 : decode cX5_write 2 = .ok (.invokevirtual 255, 3) := by decide +kernel
theorem dX5_write_5 : decode cX5_write 5 = .ok (.ifCond .ne 9, 3) := by decide +kernel
theorem dX5_write_8 : decode cX5_write 8 = .ok (.aload_n 0, 1) := by decide +kernel
theorem dX5_write_9 : decode cX5_write 9 = .ok (.iconst 0, 1) := by decide +kernel
theorem dX5_write_10 : decode cX5_write 10 = .ok (.invokevirtual 71, 3) := by decide +kernel
theorem dX5_write_13 : decode cX5_write 13 = .ok (.ireturn, 1) := by decide +kernel
theorem dX5_write_14 : decode cX5_write 14 = .ok (.aload_n 0, 1) := by decide +kernel
theorem dX5_write_15 : decode cX5_write 15 = .ok (.getfield 59, 3) := by decide +kernel
theorem dX5_write_18 : decode cX5_write 18 = .ok (.iload_n 1, 1) := by decide +kernel
theorem dX5_write_19 : decode cX5_write 19 = .ok (.aaload, 1) := by decide +kernel
theorem dX5_write_20 : decode cX5_write 20 = .ok (.invokevirtual 262, 3) := by decide +kernel
theorem dX5_write_23 : decode cX5_write 23 = .ok (.ifCond .eq 9, 3) := by decide +kernel
theorem dX5_write_26 : decode cX5_write 26 = .ok (.aload_n 0, 1) := by decide +kernel
theorem dX5_write_27 : decode cX5_write 27 = .ok (.iconst 5, 1) := by decide +kernel
theorem dX5_write_28 : decode cX5_write 28 = .ok (.invokevirtual 71, 3) := by decide +kernel
theorem dX5_write_31 : decode cX5_write 31 = .ok (.ireturn, 1) := by decide +kernel
theorem dX5_write_32 : decode cX5_write 32 = .ok (.iload_n 2, 1) := by decide +kernel
theorem dX5_write_33 : decode cX5_write 33 = .ok (.aload_n 0, 1) := by decide +kernel
theorem dX5_write_34 : decode cX5_write 34 = .ok (.getfield 59, 3) := by decide +kernel
theorem dX5_write_37 : decode cX5_write 37 = .ok (.iload_n 1, 1) := by decide +kernel
theorem dX5_write_38 : decode cX5_write 38 = .ok (.aaload, 1) := by decide +kernel
theorem dX5_write_39 : decode cX5_write 39 = .ok (.getfield 261, 3) := by decide +kernel
theorem dX5_write_42 : decode cX5_write 42 = .ok (.iconst 1, 1) := by decide +kernel
theorem dX5_write_43 : decode cX5_write 43 = .ok (.isub, 1) := by decide +kernel
theorem dX5_write_44 : decode cX5_write 44 = .ok (.invokestatic 67, 3) := by decide +kernel
theorem dX5_write_47 : decode cX5_write 47 = .ok (.ifCond .ne 9, 3) := by decide +kernel
theorem dX5_write_50 : decode cX5_write 50 = .ok (.aload_n 0, 1) := by decide +kernel
theorem dX5_write_51 : decode cX5_write 51 = .ok (.iconst 0, 1) := by decide +kernel
theorem dX5_write_52 : decode cX5_write 52 = .ok (.invokevirtual 71, 3) := by decide +kernel
theorem dX5_write_55 : decode cX5_write 55 = .ok (.ireturn, 1) := by decide +kernel
theorem dX5_write_56 : decode cX5_write 56 = .ok (.aload_n 0, 1) := by decide +kernel
theorem dX5_write_57 : decode cX5_write 57 = .ok (.getfield 59, 3) := by decide +kernel
theorem dX5_write_60 : decode cX5_write 60 = .ok (.iload_n 1, 1) := by decide +kernel
theorem dX5_write_61 : decode cX5_write 61 = .ok (.aaload, 1) := by decide +kernel
theorem dX5_write_62 : decode cX5_write 62 = .ok (.iload_n 2, 1) := by decide +kernel
theorem dX5_write_63 : decode cX5_write 63 = .ok (.iload_n 3, 1) := by decide +kernel
theorem dX5_write_64 : decode cX5_write 64 = .ok (.invokevirtual 266, 3) := by decide +kernel
theorem dX5_write_67 : decode cX5_write 67 = .ok (.iconst 1, 1) := by decide +kernel
theorem dX5_write_68 : decode cX5_write 68 = .ok (.ireturn, 1) := by decide +kernel
def fX5_write (fu : Nat) (σ : mt_St) (a1 : Int32) (a2 : Int32) (a3 : Int32) : Option (Int32 × mt_St) :=
  mt_ask (fX5_isSheet fu a1) fun r1 =>
  if r1 = 0 then
    mt_call (fX5_finding fu σ (0 : Int32)) fun r13 s14 =>
    some (r13, s14)
  else
    mt_chk (mt_in a1 4) <|
    mt_ask (fX1_isMissing fu σ (46 + 1 + Int32.toNatClampNeg a1)) fun r3 =>
    if r3 = 0 then
      mt_chk (mt_in a1 4) <|
      mt_ask (fX5_isWithin fu a2 ((σ (46 + 1 + Int32.toNatClampNeg a1) 1) - (1 : Int32))) fun r5 =>
      if r5 = 0 then
        mt_call (fX5_finding fu σ (0 : Int32)) fun r9 s10 =>
        some (r9, s10)
      else
        mt_chk (mt_in a1 4) <|
        mt_call (fX1_put fu σ (46 + 1 + Int32.toNatClampNeg a1) a2 a3) fun _ s8 =>
        some ((1 : Int32), s8)
    else
      mt_call (fX5_finding fu σ (5 : Int32)) fun r11 s12 =>
      some (r11, s12)
set_option maxHeartbeats 4000000 in
set_option maxRecDepth 20000 in
theorem vX5_write {K : mt_C} {fu : Nat} {σ : mt_St} {a1 : Int32} {a2 : Int32} {a3 : Int32} {r : Int32} {σf : mt_St} (hQ : mt_R K (some .int) (some (.int r)) σf) : mt_V K cX5_write RX5 4 2 σ 0 [(0, .ref (mt_adr (kG K) 0)), (1, .int a1), (2, .int a2), (3, .int a3)] [] (fX5_write fu σ a1 a2 a3 = some (r, σf)) := by
  unfold fX5_write
  refine mv_aload_n 0 dX5_write_0 rfl rfl ?_
  refine mv_iload_n 1 dX5_write_1 rfl rfl ?_
  refine mv_cVri (As := [.int a1]) (st := []) cal_X5_isSheet ins_X5_isSheet ml_X5_255 rfl (by decide) rfl rfl (by decide) rfl (Nat.le_of_ble_eq_true rfl) dX5_write_2 (fun r h => co_X5_isSheet h) (fun r1 => ?_)
  refine mv_if_ne 14 dX5_write_5 (by decide) ?_ ?_
  · refine mv_aload_n 0 dX5_write_14 rfl rfl ?_
    refine mg_X5_10 fl_X5_59 dX5_write_15 ?_
    refine mv_iload_n 1 dX5_write_18 rfl rfl ?_
    refine mv_aaldS rfl rfl dX5_write_19 (fun h2 => ?_)
    refine mv_cVri (As := []) (st := []) cal_X1_isMissing ins_X1_isMissing ml_X5_262 (kd_st rfl h2) (by decide) rfl rfl (by decide) rfl (Nat.le_of_ble_eq_true rfl) dX5_write_20 (fun r h => co_X1_isMissing (kd_st rfl h2) h) (fun r3 => ?_)
    refine mv_if_eq 32 dX5_write_23 (by decide) ?_ ?_
    · refine mv_iload_n 2 dX5_write_32 rfl rfl ?_
      refine mv_aload_n 0 dX5_write_33 rfl rfl ?_
      refine mg_X5_10 fl_X5_59 dX5_write_34 ?_
      refine mv_iload_n 1 dX5_write_37 rfl rfl ?_
      refine mv_aaldS rfl rfl dX5_write_38 (fun h4 => ?_)
      refine mg_X1_1 (kd_st rfl h4) fl_X5_261 dX5_write_39 ?_
      refine mv_iconst (v := 1) dX5_write_42 ic_1 ?_
      refine mv_isub dX5_write_43 ?_
      refine mv_cSri (As := [.int a2, .int ((σ (46 + 1 + Int32.toNatClampNeg a1) 1) - (1 : Int32))]) (st := []) cal_X5_isWithin sta_X5_isWithin ml_X5_67 rfl (by decide) rfl (Nat.le_of_ble_eq_true rfl) dX5_write_44 (fun r h => co_X5_isWithin h) (fun r5 => ?_)
      refine mv_if_ne 56 dX5_write_47 (by decide) ?_ ?_
      · refine mv_aload_n 0 dX5_write_56 rfl rfl ?_
        refine mg_X5_10 fl_X5_59 dX5_write_57 ?_
        refine mv_iload_n 1 dX5_write_60 rfl rfl ?_
        refine mv_aaldS rfl rfl dX5_write_61 (fun h6 => ?_)
        refine mv_iload_n 2 dX5_write_62 rfl rfl ?_
        refine mv_iload_n 3 dX5_write_63 rfl rfl ?_
        refine mv_cVwv (As := [.int a2, .int a3]) (st := []) cal_X1_put ins_X1_put ml_X5_266 (kd_st rfl h6) (by decide) rfl rfl (by decide) rfl (Nat.le_of_ble_eq_true rfl) dX5_write_64 (fun r s h => co_X1_put (kd_st rfl h6) h) (fun r7 s8 => ?_)
        refine mv_iconst (v := 1) dX5_write_67 ic_1 ?_
        exact mv_iret hQ dX5_write_68
      · refine mv_aload_n 0 dX5_write_50 rfl rfl ?_
        refine mv_iconst (v := 0) dX5_write_51 ic_0 ?_
        refine mv_cVwi (As := [.int (0 : Int32)]) (st := []) cal_X5_finding ins_X5_finding ml_X5_71 rfl (by decide) rfl rfl (by decide) rfl (Nat.le_of_ble_eq_true rfl) dX5_write_52 (fun r s h => co_X5_finding h) (fun r9 s10 => ?_)
        exact mv_iret hQ dX5_write_55
    · refine mv_aload_n 0 dX5_write_26 rfl rfl ?_
      refine mv_iconst (v := 5) dX5_write_27 ic_5 ?_
      refine mv_cVwi (As := [.int (5 : Int32)]) (st := []) cal_X5_finding ins_X5_finding ml_X5_71 rfl (by decide) rfl rfl (by decide) rfl (Nat.le_of_ble_eq_true rfl) dX5_write_28 (fun r s h => co_X5_finding h) (fun r11 s12 => ?_)
      exact mv_iret hQ dX5_write_31
  · refine mv_aload_n 0 dX5_write_8 rfl rfl ?_
    refine mv_iconst (v := 0) dX5_write_9 ic_0 ?_
    refine mv_cVwi (As := [.int (0 : Int32)]) (st := []) cal_X5_finding ins_X5_finding ml_X5_71 rfl (by decide) rfl rfl (by decide) rfl (Nat.le_of_ble_eq_true rfl) dX5_write_10 (fun r s h => co_X5_finding h) (fun r13 s14 => ?_)
    exact mv_iret hQ dX5_write_13
theorem co_X5_write {l : Launch} {G : mt_G} {fu : Nat} {σ : mt_St} {a1 : Int32} {a2 : Int32} {a3 : Int32} {r : Int32} {σf : mt_St}  (h : fX5_write fu σ a1 a2 a3 = some (r, σf)) : mt_Con l G yX5_write cX5_write 4 (some .int) 2 [.ref (mt_adr G 0), .int a1, .int a2, .int a3] σ (some (.int r)) σf :=
  mt_con (by decide) (Nat.le_of_ble_eq_true rfl) (fun K hl hG hQ => by subst hl; subst hG; exact fun _ => vX5_write  hQ h)
theorem dX5_copy_0 : decode cX5_copy 0 = .ok (.aload_n 0, 1) := by decide +kernel
theorem dX5_copy_1 : decode cX5_copy 1 = .ok (.iload_n 1, 1) := by decide +kernel
theorem dX5_copy_2 : decode cX5_copy 2 = .ok (.invokevirtual 255, 3) := by decide +kernel
theorem dX5_copy_5 : decode cX5_copy 5 = .ok (.ifCond .eq 11, 3) := by decide +kernel
theorem dX5_copy_8 : decode cX5_copy 8 = .ok (.aload_n 0, 1) := by decide +kernel
theorem dX5_copy_9 : decode cX5_copy 9 = .ok (.iload_n 3, 1) := by decide +kernel
theorem dX5_copy_10 : decode cX5_copy 10 = .ok (.invokevirtual 255, 3) := by decide +kernel
theorem dX5_copy_13 : decode cX5_copy 13 = .ok (.ifCond .ne 9, 3) := by decide +kernel
theorem dX5_copy_16 : decode cX5_copy 16 = .ok (.aload_n 0, 1) := by decide +kernel
theorem dX5_copy_17 : decode cX5_copy 17 = .ok (.iconst 0, 1) := by decide +kernel
theorem dX5_copy_18 : decode cX5_copy 18 = .ok (.invokevirtual 71, 3) := by decide +kernel
theorem dX5_copy_21 : decode cX5_copy 21 = .ok (.ireturn, 1) := by decide +kernel
theorem dX5_copy_22 : decode cX5_copy 22 = .ok (.aload_n 0, 1) := by decide +kernel
theorem dX5_copy_23 : decode cX5_copy 23 = .ok (.getfield 59, 3) := by decide +kernel
theorem dX5_copy_26 : decode cX5_copy 26 = .ok (.iload_n 1, 1) := by decide +kernel
theorem dX5_copy_27 : decode cX5_copy 27 = .ok (.aaload, 1) := by decide +kernel
theorem dX5_copy_28 : decode cX5_copy 28 = .ok (.astore 6, 2) := by decide +kernel
theorem dX5_copy_30 : decode cX5_copy 30 = .ok (.aload_n 0, 1) := by decide +kernel
theorem dX5_copy_31 : decode cX5_copy 31 = .ok (.getfield 59, 3) := by decide +kernel
theorem dX5_copy_34 : decode cX5_copy 34 = .ok (.iload_n 3, 1) := by decide +kernel
theorem dX5_copy_35 : decode cX5_copy 35 = .ok (.aaload, 1) := by decide +kernel
theorem dX5_copy_36 : decode cX5_copy 36 = .ok (.astore 7, 2) := by decide +kernel
theorem dX5_copy_38 : decode cX5_copy 38 = .ok (.aload 6, 2) := by decide +kernel
theorem dX5_copy_40 : decode cX5_copy 40 = .ok (.invokevirtual 262, 3) := by decide +kernel
theorem dX5_copy_43 : decode cX5_copy 43 = .ok (.ifCond .ne 11, 3) := by decide +kernel
theorem dX5_copy_46 : decode cX5_copy 46 = .ok (.aload 7, 2) := by decide +kernel
theorem dX5_copy_48 : decode cX5_copy 48 = .ok (.invokevirtual 262, 3) := by decide +kernel
theorem dX5_copy_51 : decode cX5_copy 51 = .ok (.ifCond .eq 9, 3) := by decide +kernel
theorem dX5_copy_54 : decode cX5_copy 54 = .ok (.aload_n 0, 1) := by decide +kernel
theorem dX5_copy_55 : decode cX5_copy 55 = .ok (.iconst 5, 1) := by decide +kernel
theorem dX5_copy_56 : decode cX5_copy 56 = .ok (.invokevirtual 71, 3) := by decide +kernel
theorem dX5_copy_59 : decode cX5_copy 59 = .ok (.ireturn, 1) := by decide +kernel
theorem dX5_copy_60 : decode cX5_copy 60 = .ok (.aload 6, 2) := by decide +kernel
theorem dX5_copy_62 : decode cX5_copy 62 = .ok (.getfield 269, 3) := by decide +kernel
theorem dX5_copy_65 : decode cX5_copy 65 = .ok (.aload 7, 2) := by decide +kernel
theorem dX5_copy_67 : decode cX5_copy 67 = .ok (.getfield 269, 3) := by decide +kernel
theorem dX5_copy_70 : decode cX5_copy 70 = .ok (.if_icmp .eq 9, 3) := by decide +kernel
theorem dX5_copy_73 : decode cX5_copy 73 = .ok (.aload_n 0, 1) := by decide +kernel
theorem dX5_copy_74 : decode cX5_copy 74 = .ok (.iconst 2, 1) := by decide +kernel
theorem dX5_copy_75 : decode cX5_copy 75 = .ok (.invokevirtual 71, 3) := by decide +kernel
theorem dX5_copy_78 : decode cX5_copy 78 = .ok (.ireturn, 1) := by decide +kernel
theorem dX5_copy_79 : decode cX5_copy 79 = .ok (.aload 6, 2) := by decide +kernel
theorem dX5_copy_81 : decode cX5_copy 81 = .ok (.iload_n 2, 1) := by decide +kernel
theorem dX5_copy_82 : decode cX5_copy 82 = .ok (.iload 5, 2) := by decide +kernel
theorem dX5_copy_84 : decode cX5_copy 84 = .ok (.invokevirtual 272, 3) := by decide +kernel
theorem dX5_copy_87 : decode cX5_copy 87 = .ok (.ifCond .eq 15, 3) := by decide +kernel
theorem dX5_copy_90 : decode cX5_copy 90 = .ok (.aload 7, 2) := by decide +kernel
theorem dX5_copy_92 : decode cX5_copy 92 = .ok (.iload 4, 2) := by decide +kernel
theorem dX5_copy_94 : decode cX5_copy 94 = .ok (.iload 5, 2) := by decide +kernel
theorem dX5_copy_96 : decode cX5_copy 96 = .ok (.invokevirtual 272, 3) := by decide +kernel
theorem dX5_copy_99 : decode cX5_copy 99 = .ok (.ifCond .ne 9, 3) := by decide +kernel
theorem dX5_copy_102 : decode cX5_copy 102 = .ok (.aload_n 0, 1) := by decide +kernel
theorem dX5_copy_103 : decode cX5_copy 103 = .ok (.iconst 0, 1) := by decide +kernel
theorem dX5_copy_104 : decode cX5_copy 104 = .ok (.invokevirtual 71, 3) := by decide +kernel
theorem dX5_copy_107 : decode cX5_copy 107 = .ok (.ireturn, 1) := by decide +kernel
theorem dX5_copy_108 : decode cX5_copy 108 = .ok (.aload 6, 2) := by decide +kernel
theorem dX5_copy_110 : decode cX5_copy 110 = .ok (.getfield 275, 3) := by decide +kernel
theorem dX5_copy_113 : decode cX5_copy 113 = .ok (.iload_n 2, 1) := by decide +kernel
theorem dX5_copy_114 : decode cX5_copy 114 = .ok (.aload 7, 2) := by decide +kernel
theorem dX5_copy_116 : decode cX5_copy 116 = .ok (.getfield 275, 3) := by decide +kernel
theorem dX5_copy_119 : decode cX5_copy 119 = .ok (.iload 4, 2) := by decide +kernel
theorem dX5_copy_121 : decode cX5_copy 121 = .ok (.iload 5, 2) := by decide +kernel
theorem dX5_copy_123 : decode cX5_copy 123 = .ok (.invokestatic 278, 3) := by decide +kernel
theorem dX5_copy_126 : decode cX5_copy 126 = .ok (.iload 5, 2) := by decide +kernel
theorem dX5_copy_128 : decode cX5_copy 128 = .ok (.ireturn, 1) := by decide +kernel
def bX5_copy_102 (fu : Nat) (σ : mt_St) : Option (Int32 × mt_St) :=
  mt_call (fX5_finding fu σ (0 : Int32)) fun r1 s2 =>
  some (r1, s2)
set_option maxHeartbeats 4000000 in
set_option maxRecDepth 20000 in
theorem vX5_copy_102 {K : mt_C} {fu : Nat} {r : Int32} {σf : mt_St} (hQ : mt_R K (some .int) (some (.int r)) σf) : ∀ (σ : mt_St), mt_V K cX5_copy RX5 8 2 σ 102 [(0, .ref (mt_adr (kG K) 0))] [] (bX5_copy_102 fu σ = some (r, σf)) := by
  intro σ
  unfold bX5_copy_102
  refine mv_aload_n 0 dX5_copy_102 rfl rfl ?_
  refine mv_iconst (v := 0) dX5_copy_103 ic_0 ?_
  refine mv_cVwi (As := [.int (0 : Int32)]) (st := []) cal_X5_finding ins_X5_finding ml_X5_71 rfl (by decide) rfl rfl (by decide) rfl (Nat.le_of_ble_eq_true rfl) dX5_copy_104 (fun r s h => co_X5_finding h) (fun r1 s2 => ?_)
  exact mv_iret hQ dX5_copy_107
def bX5_copy_54 (fu : Nat) (σ : mt_St) : Option (Int32 × mt_St) :=
  mt_call (fX5_finding fu σ (5 : Int32)) fun r1 s2 =>
  some (r1, s2)
set_option maxHeartbeats 4000000 in
set_option maxRecDepth 20000 in
theorem vX5_copy_54 {K : mt_C} {fu : Nat} {r : Int32} {σf : mt_St} (hQ : mt_R K (some .int) (some (.int r)) σf) : ∀ (σ : mt_St), mt_V K cX5_copy RX5 8 2 σ 54 [(0, .ref (mt_adr (kG K) 0))] [] (bX5_copy_54 fu σ = some (r, σf)) := by
  intro σ
  unfold bX5_copy_54
  refine mv_aload_n 0 dX5_copy_54 rfl rfl ?_
  refine mv_iconst (v := 5) dX5_copy_55 ic_5 ?_
  refine mv_cVwi (As := [.int (5 : Int32)]) (st := []) cal_X5_finding ins_X5_finding ml_X5_71 rfl (by decide) rfl rfl (by decide) rfl (Nat.le_of_ble_eq_true rfl) dX5_copy_56 (fun r s h => co_X5_finding h) (fun r1 s2 => ?_)
  exact mv_iret hQ dX5_copy_59
def bX5_copy_16 (fu : Nat) (σ : mt_St) : Option (Int32 × mt_St) :=
  mt_call (fX5_finding fu σ (0 : Int32)) fun r1 s2 =>
  some (r1, s2)
set_option maxHeartbeats 4000000 in
set_option maxRecDepth 20000 in
theorem vX5_copy_16 {K : mt_C} {fu : Nat} {r : Int32} {σf : mt_St} (hQ : mt_R K (some .int) (some (.int r)) σf) : ∀ (σ : mt_St), mt_V K cX5_copy RX5 8 2 σ 16 [(0, .ref (mt_adr (kG K) 0))] [] (bX5_copy_16 fu σ = some (r, σf)) := by
  intro σ
  unfold bX5_copy_16
  refine mv_aload_n 0 dX5_copy_16 rfl rfl ?_
  refine mv_iconst (v := 0) dX5_copy_17 ic_0 ?_
  refine mv_cVwi (As := [.int (0 : Int32)]) (st := []) cal_X5_finding ins_X5_finding ml_X5_71 rfl (by decide) rfl rfl (by decide) rfl (Nat.le_of_ble_eq_true rfl) dX5_copy_18 (fun r s h => co_X5_finding h) (fun r1 s2 => ?_)
  exact mv_iret hQ dX5_copy_21
def fX5_copy (fu : Nat) (σ : mt_St) (a1 : Int32) (a2 : Int32) (a3 : Int32) (a4 : Int32) (a5 : Int32) : Option (Int32 × mt_St) :=
  mt_ask (fX5_isSheet fu a1) fun r1 =>
  if r1 = 0 then
    bX5_copy_16 fu σ
  else
    mt_ask (fX5_isSheet fu a3) fun r2 =>
    if r2 = 0 then
      bX5_copy_16 fu σ
    else
      mt_chk (mt_in a1 4) <|
      mt_chk (mt_in a3 4) <|
      mt_ask (fX1_isMissing fu σ (46 + 1 + Int32.toNatClampNeg a1)) fun r5 =>
      if r5 = 0 then
        mt_ask (fX1_isMissing fu σ (46 + 1 + Int32.toNatClampNeg a3)) fun r6 =>
        if r6 = 0 then
          if (σ (46 + 1 + Int32.toNatClampNeg a1) 0) = (σ (46 + 1 + Int32.toNatClampNeg a3) 0) then
            mt_ask (fX1_hasRange fu σ (46 + 1 + Int32.toNatClampNeg a1) a2 a5) fun r7 =>
            if r7 = 0 then
              bX5_copy_102 fu σ
            else
              mt_ask (fX1_hasRange fu σ (46 + 1 + Int32.toNatClampNeg a3) a4 a5) fun r8 =>
              if r8 = 0 then
                bX5_copy_102 fu σ
              else
                mt_chk (mt_cpok a2 a4 a5 40 40) <|
                mt_bnd (mt_row σ ((46 + 1 + Int32.toNatClampNeg a3) + 4) (va_cpy (σ ((46 + 1 + Int32.toNatClampNeg a1) + 4)) (σ ((46 + 1 + Int32.toNatClampNeg a3) + 4)) (Int32.toNatClampNeg a2) (Int32.toNatClampNeg a4) (Int32.toNatClampNeg a5))) fun s10 =>
                some (a5, s10)
          else
            mt_call (fX5_finding fu σ (2 : Int32)) fun r11 s12 =>
            some (r11, s12)
        else
          bX5_copy_54 fu σ
      else
        bX5_copy_54 fu σ
set_option maxHeartbeats 4000000 in
set_option maxRecDepth 20000 in
theorem vX5_copy {K : mt_C} {fu : Nat} {σ : mt_St} {a1 : Int32} {a2 : Int32} {a3 : Int32} {a4 : Int32} {a5 : Int32} {r : Int32} {σf : mt_St} (hQ : mt_R K (some .int) (some (.int r)) σf) : mt_V K cX5_copy RX5 8 2 σ 0 [(0, .ref (mt_adr (kG K) 0)), (1, .int a1), (2, .int a2), (3, .int a3), (4, .int a4), (5, .int a5)] [] (fX5_copy fu σ a1 a2 a3 a4 a5 = some (r, σf)) := by
  unfold fX5_copy
  refine mv_aload_n 0 dX5_copy_0 rfl rfl ?_
  refine mv_iload_n 1 dX5_copy_1 rfl rfl ?_
  refine mv_cVri (As := [.int a1]) (st := []) cal_X5_isSheet ins_X5_isSheet ml_X5_255 rfl (by decide) rfl rfl (by decide) rfl (Nat.le_of_ble_eq_true rfl) dX5_copy_2 (fun r h => co_X5_isSheet h) (fun r1 => ?_)
  refine mv_if_eq 16 dX5_copy_5 (by decide) ?_ ?_
  · refine mv_sub (lv' := [(0, .ref (mt_adr (kG K) 0))]) [0] rfl ?_
    exact vX5_copy_16 hQ σ
  · refine mv_aload_n 0 dX5_copy_8 rfl rfl ?_
    refine mv_iload_n 3 dX5_copy_9 rfl rfl ?_
    refine mv_cVri (As := [.int a3]) (st := []) cal_X5_isSheet ins_X5_isSheet ml_X5_255 rfl (by decide) rfl rfl (by decide) rfl (Nat.le_of_ble_eq_true rfl) dX5_copy_10 (fun r h => co_X5_isSheet h) (fun r2 => ?_)
    refine mv_if_ne 22 dX5_copy_13 (by decide) ?_ ?_
    · refine mv_aload_n 0 dX5_copy_22 rfl rfl ?_
      refine mg_X5_10 fl_X5_59 dX5_copy_23 ?_
      refine mv_iload_n 1 dX5_copy_26 rfl rfl ?_
      refine mv_aaldS rfl rfl dX5_copy_27 (fun h3 => ?_)
      refine mv_astore (lv' := [(0, .ref (mt_adr (kG K) 0)), (2, .int a2), (3, .int a3), (4, .int a4), (5, .int a5), (6, .ref (mt_adr (kG K) (46 + 1 + Int32.toNatClampNeg a1)))]) [1, 3, 4, 5, 6, 0] dX5_copy_28 (by decide) rfl ?_
      refine mv_aload_n 0 dX5_copy_30 rfl rfl ?_
      refine mg_X5_10 fl_X5_59 dX5_copy_31 ?_
      refine mv_iload_n 2 dX5_copy_34 rfl rfl ?_
      refine mv_aaldS rfl rfl dX5_copy_35 (fun h4 => ?_)
      refine mv_astore (lv' := [(0, .ref (mt_adr (kG K) 0)), (2, .int a2), (4, .int a4), (5, .int a5), (6, .ref (mt_adr (kG K) (46 + 1 + Int32.toNatClampNeg a1))), (7, .ref (mt_adr (kG K) (46 + 1 + Int32.toNatClampNeg a3)))]) [1, 2, 4, 5, 6, 0] dX5_copy_36 (by decide) rfl ?_
      refine mv_aload 4 dX5_copy_38 rfl ?_
      refine mv_cVri (As := []) (st := []) cal_X1_isMissing ins_X1_isMissing ml_X5_262 (kd_st rfl h3) (by decide) rfl rfl (by decide) rfl (Nat.le_of_ble_eq_true rfl) dX5_copy_40 (fun r h => co_X1_isMissing (kd_st rfl h3) h) (fun r5 => ?_)
      refine mv_if_ne 54 dX5_copy_43 (by decide) ?_ ?_
      · refine mv_sub (lv' := [(0, .ref (mt_adr (kG K) 0))]) [0] rfl ?_
        exact vX5_copy_54 hQ σ
      · refine mv_aload 5 dX5_copy_46 rfl ?_
        refine mv_cVri (As := []) (st := []) cal_X1_isMissing ins_X1_isMissing ml_X5_262 (kd_st rfl h4) (by decide) rfl rfl (by decide) rfl (Nat.le_of_ble_eq_true rfl) dX5_copy_48 (fun r h => co_X1_isMissing (kd_st rfl h4) h) (fun r6 => ?_)
        refine mv_if_eq 60 dX5_copy_51 (by decide) ?_ ?_
        · refine mv_aload 4 dX5_copy_60 rfl ?_
          refine mg_X1_0 (kd_st rfl h3) fl_X5_269 dX5_copy_62 ?_
          refine mv_aload 5 dX5_copy_65 rfl ?_
          refine mg_X1_0 (kd_st rfl h4) fl_X5_269 dX5_copy_67 ?_
          refine mv_icmp_eq 79 dX5_copy_70 (by decide) ?_ ?_
          · refine mv_aload 4 dX5_copy_79 rfl ?_
            refine mv_iload_n 1 dX5_copy_81 rfl rfl ?_
            refine mv_iload 3 dX5_copy_82 rfl ?_
            refine mv_cVri (As := [.int a2, .int a5]) (st := []) cal_X1_hasRange ins_X1_hasRange ml_X5_272 (kd_st rfl h3) (by decide) rfl rfl (by decide) rfl (Nat.le_of_ble_eq_true rfl) dX5_copy_84 (fun r h => co_X1_hasRange (kd_st rfl h3) h) (fun r7 => ?_)
            refine mv_if_eq 102 dX5_copy_87 (by decide) ?_ ?_
            · refine mv_sub (lv' := [(0, .ref (mt_adr (kG K) 0))]) [0] rfl ?_
              exact vX5_copy_102 hQ σ
            · refine mv_aload 5 dX5_copy_90 rfl ?_
              refine mv_iload 2 dX5_copy_92 rfl ?_
              refine mv_iload 3 dX5_copy_94 rfl ?_
              refine mv_cVri (As := [.int a4, .int a5]) (st := []) cal_X1_hasRange ins_X1_hasRange ml_X5_272 (kd_st rfl h4) (by decide) rfl rfl (by decide) rfl (Nat.le_of_ble_eq_true rfl) dX5_copy_96 (fun r h => co_X1_hasRange (kd_st rfl h4) h) (fun r8 => ?_)
              refine mv_if_ne 108 dX5_copy_99 (by decide) ?_ ?_
              · refine mv_aload 4 dX5_copy_108 rfl ?_
                refine mg_X1_2 (kd_st rfl h3) fl_X5_275 dX5_copy_110 ?_
                refine mv_iload_n 1 dX5_copy_113 rfl rfl ?_
                refine mv_aload 5 dX5_copy_114 rfl ?_
                refine mg_X1_2 (kd_st rfl h4) fl_X5_275 dX5_copy_116 ?_
                refine mv_iload 2 dX5_copy_119 rfl ?_
                refine mv_iload 3 dX5_copy_121 rfl ?_
                refine mv_acopy 40 40 (kd_sh (kd_st rfl h3)) (ln_sh (kd_st rfl h3)) (kd_sh (kd_st rfl h4)) (ln_sh (kd_st rfl h4)) ml_X5_278 (by decide) (Nat.le_of_ble_eq_true rfl) dX5_copy_123 (fun s10 => ?_)
                refine mv_iload 3 dX5_copy_126 rfl ?_
                exact mv_iret hQ dX5_copy_128
              · refine mv_sub (lv' := [(0, .ref (mt_adr (kG K) 0))]) [0] rfl ?_
                exact vX5_copy_102 hQ σ
          · refine mv_aload_n 0 dX5_copy_73 rfl rfl ?_
            refine mv_iconst (v := 2) dX5_copy_74 ic_2 ?_
            refine mv_cVwi (As := [.int (2 : Int32)]) (st := []) cal_X5_finding ins_X5_finding ml_X5_71 rfl (by decide) rfl rfl (by decide) rfl (Nat.le_of_ble_eq_true rfl) dX5_copy_75 (fun r s h => co_X5_finding h) (fun r11 s12 => ?_)
            exact mv_iret hQ dX5_copy_78
        · refine mv_sub (lv' := [(0, .ref (mt_adr (kG K) 0))]) [0] rfl ?_
          exact vX5_copy_54 hQ σ
    · refine mv_sub (lv' := [(0, .ref (mt_adr (kG K) 0))]) [0] rfl ?_
      exact vX5_copy_16 hQ σ
theorem co_X5_copy {l : Launch} {G : mt_G} {fu : Nat} {σ : mt_St} {a1 : Int32} {a2 : Int32} {a3 : Int32} {a4 : Int32} {a5 : Int32} {r : Int32} {σf : mt_St}  (h : fX5_copy fu σ a1 a2 a3 a4 a5 = some (r, σf)) : mt_Con l G yX5_copy cX5_copy 8 (some .int) 2 [.ref (mt_adr G 0), .int a1, .int a2, .int a3, .int a4, .int a5] σ (some (.int r)) σf :=
  mt_con (by decide) (Nat.le_of_ble_eq_true rfl) (fun K hl hG hQ => by subst hl; subst hG; exact fun _ => vX5_copy  hQ h)
theorem dX5_load_0 : decode cX5_load 0 = .ok (.aload_n 0, 1) := by decide +kernel
theorem dX5_load_1 : decode cX5_load 1 = .ok (.iload_n 1, 1) := by decide +kernel
theorem dX5_load_2 : decode cX5_load 2 = .ok (.invokevirtual 284, 3) := by decide +kernel
theorem dX5_load_5 : decode cX5_load 5 = .ok (.istore_n 2, 1) := by decide +kernel
theorem dX5_load_6 : decode cX5_load 6 = .ok (.iload_n 2, 1) := by decide +kernel
theorem dX5_load_7 : decode cX5_load 7 = .ok (.ifCond .lt 9, 3) := by decide +kernel
theorem dX5_load_10 : decode cX5_load 10 = .ok (.aload_n 0, 1) := by decide +kernel
theorem dX5_load_11 : decode cX5_load 11 = .ok (.iload_n 2, 1) := by decide +kernel
theorem dX5_load_12 : decode cX5_load 12 = .ok (.invokevirtual 71, 3) := by decide +kernel
theorem dX5_load_15 : decode cX5_load 15 = .ok (.ireturn, 1) := by decide +kernel
theorem dX5_load_16 : decode cX5_load 16 = .ok (.aload_n 0, 1) := by decide +kernel
theorem dX5_load_17 : decode cX5_load 17 = .ok (.getfield 59, 3) := by decide +kernel
theorem dX5_load_20 : decode cX5_load 20 = .ok (.iload_n 1, 1) := by decide +kernel
theorem dX5_load_21 : decode cX5_load 21 = .ok (.aaload, 1) := by decide +kernel
theorem dX5_load_22 : decode cX5_load 22 = .ok (.getfield 261, 3) := by decide +kernel
theorem dX5_load_25 : decode cX5_load 25 = .ok (.aload_n 0, 1) := by decide +kernel
theorem dX5_load_26 : decode cX5_load 26 = .ok (.getfield 10, 3) := by decide +kernel
theorem dX5_load_29 : decode cX5_load 29 = .ok (.getfield 91, 3) := by decide +kernel
theorem dX5_load_32 : decode cX5_load 32 = .ok (.invokestatic 287, 3) := by decide +kernel
theorem dX5_load_35 : decode cX5_load 35 = .ok (.istore_n 3, 1) := by decide +kernel
theorem dX5_load_36 : decode cX5_load 36 = .ok (.iconst 0, 1) := by decide +kernel
theorem dX5_load_37 : decode cX5_load 37 = .ok (.istore 4, 2) := by decide +kernel
theorem dX5_load_39 : decode cX5_load 39 = .ok (.iload 4, 2) := by decide +kernel
theorem dX5_load_41 : decode cX5_load 41 = .ok (.iload_n 3, 1) := by decide +kernel
theorem dX5_load_42 : decode cX5_load 42 = .ok (.if_icmp .ge 58, 3) := by decide +kernel
theorem dX5_load_45 : decode cX5_load 45 = .ok (.aload_n 0, 1) := by decide +kernel
theorem dX5_load_46 : decode cX5_load 46 = .ok (.getfield 59, 3) := by decide +kernel
theorem dX5_load_49 : decode cX5_load 49 = .ok (.iload_n 1, 1) := by decide +kernel
theorem dX5_load_50 : decode cX5_load 50 = .ok (.aaload, 1) := by decide +kernel
theorem dX5_load_51 : decode cX5_load 51 = .ok (.getfield 275, 3) := by decide +kernel
theorem dX5_load_54 : decode cX5_load 54 = .ok (.iload 4, 2) := by decide +kernel
theorem dX5_load_56 : decode cX5_load 56 = .ok (.iaload, 1) := by decide +kernel
theorem dX5_load_57 : decode cX5_load 57 = .ok (.sipush 4095, 3) := by decide +kernel
theorem dX5_load_60 : decode cX5_load 60 = .ok (.invokestatic 67, 3) := by decide +kernel
theorem dX5_load_63 : decode cX5_load 63 = .ok (.ifCond .ne 6, 3) := by decide +kernel
theorem dX5_load_66 : decode cX5_load 66 = .ok (.iload 4, 2) := by decide +kernel
theorem dX5_load_68 : decode cX5_load 68 = .ok (.ireturn, 1) := by decide +kernel
theorem dX5_load_69 : decode cX5_load 69 = .ok (.aload_n 0, 1) := by decide +kernel
theorem dX5_load_70 : decode cX5_load 70 = .ok (.getfield 10, 3) := by decide +kernel
theorem dX5_load_73 : decode cX5_load 73 = .ok (.getfield 102, 3) := by decide +kernel
theorem dX5_load_76 : decode cX5_load 76 = .ok (.iload 4, 2) := by decide +kernel
theorem dX5_load_78 : decode cX5_load 78 = .ok (.aaload, 1) := by decide +kernel
theorem dX5_load_79 : decode cX5_load 79 = .ok (.aload_n 0, 1) := by decide +kernel
theorem dX5_load_80 : decode cX5_load 80 = .ok (.getfield 59, 3) := by decide +kernel
theorem dX5_load_83 : decode cX5_load 83 = .ok (.iload_n 1, 1) := by decide +kernel
theorem dX5_load_84 : decode cX5_load 84 = .ok (.aaload, 1) := by decide +kernel
theorem dX5_load_85 : decode cX5_load 85 = .ok (.getfield 275, 3) := by decide +kernel
theorem dX5_load_88 : decode cX5_load 88 = .ok (.iload 4, 2) := by decide +kernel
theorem dX5_load_90 : decode cX5_load 90 = .ok (.iaload, 1) := by decide +kernel
theorem dX5_load_91 : decode cX5_load 91 = .ok (.putfield 187, 3) := by decide +kernel
theorem dX5_load_94 : decode cX5_load 94 = .ok (.iinc 4 1, 3) := by decide +kernel
theorem dX5_load_97 : decode cX5_load 97 = .ok (.goto (-58), 3) := by decide +kernel
theorem dX5_load_100 : decode cX5_load 100 = .ok (.iload_n 3, 1) := by decide +kernel
theorem dX5_load_101 : decode cX5_load 101 = .ok (.ireturn, 1) := by decide +kernel
def bX5_load_39 (fu : Nat) : Nat → mt_St → Int32 → Int32 → Int32 → Option (Int32 × mt_St)
  | 0, _, _, _, _ => none
  | n + 1, σ, x1, x3, x4 =>
    if x3 ≤ x4 then
      some (x3, σ)
    else
      mt_chk (mt_in x1 4) <|
      mt_chk (mt_in x4 40) <|
      mt_ask (fX5_isWithin fu (σ ((46 + 1 + Int32.toNatClampNeg x1) + 4) (Int32.toNatClampNeg x4)) (4095 : Int32)) fun r2 =>
      if r2 = 0 then
        some (x4, σ)
      else
        mt_chk (mt_in x4 8) <|
        mt_chk (mt_in x1 4) <|
        mt_chk (mt_in x4 40) <|
        mt_bnd (mt_up σ ((1 + 2) + 2 + Int32.toNatClampNeg x4) 3 (σ ((46 + 1 + Int32.toNatClampNeg x1) + 4) (Int32.toNatClampNeg x4))) fun s5 =>
        bX5_load_39 fu n s5 x1 x3 (x4 + 1)
set_option maxHeartbeats 4000000 in
set_option maxRecDepth 20000 in
theorem vX5_load_39 {K : mt_C} {fu : Nat} {r : Int32} {σf : mt_St} (hQ : mt_R K (some .int) (some (.int r)) σf) : ∀ (n : Nat) (σ : mt_St) (x1 : Int32) (x3 : Int32) (x4 : Int32), mt_V K cX5_load RX5 5 3 σ 39 [(0, .ref (mt_adr (kG K) 0)), (1, .int x1), (3, .int x3), (4, .int x4)] [] (bX5_load_39 fu n σ x1 x3 x4 = some (r, σf)) := by
  intro n
  induction n with
  | zero => intro σ x1 x3 x4; intro hP; unfold bX5_load_39 at hP; cases hP
  | succ n ih =>
    intro σ x1 x3 x4
    unfold bX5_load_39
    refine mv_iload 3 dX5_load_39 rfl ?_
    refine mv_iload_n 2 dX5_load_41 rfl rfl ?_
    refine mv_icmp_ge 100 dX5_load_42 (by decide) ?_ ?_
    · refine mv_iload_n 2 dX5_load_100 rfl rfl ?_
      exact mv_iret hQ dX5_load_101
    · refine mv_aload_n 0 dX5_load_45 rfl rfl ?_
      refine mg_X5_10 fl_X5_59 dX5_load_46 ?_
      refine mv_iload_n 1 dX5_load_49 rfl rfl ?_
      refine mv_aaldS rfl rfl dX5_load_50 (fun h1 => ?_)
      refine mg_X1_2 (kd_st rfl h1) fl_X5_275 dX5_load_51 ?_
      refine mv_iload 3 dX5_load_54 rfl ?_
      refine mv_iald 40 (kd_sh (kd_st rfl h1)) (ln_sh (kd_st rfl h1)) dX5_load_56 ?_
      refine mv_sipush (v := 4095) dX5_load_57 sp_4095 ?_
      refine mv_cSri (As := [.int (σ ((46 + 1 + Int32.toNatClampNeg x1) + 4) (Int32.toNatClampNeg x4)), .int (4095 : Int32)]) (st := []) cal_X5_isWithin sta_X5_isWithin ml_X5_67 rfl (by decide) rfl (Nat.le_of_ble_eq_true rfl) dX5_load_60 (fun r h => co_X5_isWithin h) (fun r2 => ?_)
      refine mv_if_ne 69 dX5_load_63 (by decide) ?_ ?_
      · refine mv_aload_n 0 dX5_load_69 rfl rfl ?_
        refine mg_X5_0 fl_X5_10 dX5_load_70 ?_
        refine mg_X4_6 rfl fl_X5_102 dX5_load_73 ?_
        refine mv_iload 3 dX5_load_76 rfl ?_
        refine mv_aaldT (kd_w2 rfl) (ln_w2 rfl) dX5_load_78 (fun h3 => ?_)
        refine mv_aload_n 0 dX5_load_79 rfl rfl ?_
        refine mg_X5_10 fl_X5_59 dX5_load_80 ?_
        refine mv_iload_n 1 dX5_load_83 rfl rfl ?_
        refine mv_aaldS rfl rfl dX5_load_84 (fun h4 => ?_)
        refine mg_X1_2 (kd_st rfl h4) fl_X5_275 dX5_load_85 ?_
        refine mv_iload 3 dX5_load_88 rfl ?_
        refine mv_iald 40 (kd_sh (kd_st rfl h4)) (ln_sh (kd_st rfl h4)) dX5_load_90 ?_
        refine mp_X3_3 (kd_tr (kd_w2 rfl) h3) fl_X5_187 dX5_load_91 (fun s5 => ?_)
        refine mv_iinc (k0 := 3) (v := x4 + 1) (lv' := [(0, .ref (mt_adr (kG K) 0)), (1, .int x1), (3, .int x3), (4, .int (x4 + 1))]) [1, 2, 3, 0] dX5_load_94 rfl (mt_inc ic_1) (by decide) rfl ?_
        refine mv_goto 39 dX5_load_97 (by decide) ?_
        exact ih s5 x1 x3 (x4 + 1)
      · refine mv_iload 3 dX5_load_66 rfl ?_
        exact mv_iret hQ dX5_load_68
def fX5_load (fu : Nat) (σ : mt_St) (a1 : Int32) : Option (Int32 × mt_St) :=
  mt_ask (fX5_faultOfSheet fu σ a1) fun r1 =>
  if r1 < 0 then
    mt_chk (mt_in a1 4) <|
    bX5_load_39 fu fu σ a1 (mt_min (σ (46 + 1 + Int32.toNatClampNeg a1) 1) (σ 1 7)) (0 : Int32)
  else
    mt_call (fX5_finding fu σ r1) fun r4 s5 =>
    some (r4, s5)
set_option maxHeartbeats 4000000 in
set_option maxRecDepth 20000 in
theorem vX5_load {K : mt_C} {fu : Nat} {σ : mt_St} {a1 : Int32} {r : Int32} {σf : mt_St} (hQ : mt_R K (some .int) (some (.int r)) σf) : mt_V K cX5_load RX5 5 3 σ 0 [(0, .ref (mt_adr (kG K) 0)), (1, .int a1)] [] (fX5_load fu σ a1 = some (r, σf)) := by
  unfold fX5_load
  refine mv_aload_n 0 dX5_load_0 rfl rfl ?_
  refine mv_iload_n 1 dX5_load_1 rfl rfl ?_
  refine mv_cVri (As := [.int a1]) (st := []) cal_X5_faultOfSheet ins_X5_faultOfSheet ml_X5_284 rfl (by decide) rfl rfl (by decide) rfl (Nat.le_of_ble_eq_true rfl) dX5_load_2 (fun r h => co_X5_faultOfSheet h) (fun r1 => ?_)
  refine mv_istore_n (lv' := [(0, .ref (mt_adr (kG K) 0)), (1, .int a1), (2, .int r1)]) [1, 2, 0] dX5_load_5 rfl (by decide) rfl ?_
  refine mv_iload_n 2 dX5_load_6 rfl rfl ?_
  refine mv_if_lt 16 dX5_load_7 (by decide) ?_ ?_
  · refine mv_aload_n 0 dX5_load_16 rfl rfl ?_
    refine mg_X5_10 fl_X5_59 dX5_load_17 ?_
    refine mv_iload_n 1 dX5_load_20 rfl rfl ?_
    refine mv_aaldS rfl rfl dX5_load_21 (fun h2 => ?_)
    refine mg_X1_1 (kd_st rfl h2) fl_X5_261 dX5_load_22 ?_
    refine mv_aload_n 0 dX5_load_25 rfl rfl ?_
    refine mg_X5_0 fl_X5_10 dX5_load_26 ?_
    refine mg_X4_7 rfl fl_X5_91 dX5_load_29 ?_
    refine mv_mmin mm_X5_287 (by decide) (Nat.le_of_ble_eq_true rfl) dX5_load_32 ?_
    refine mv_istore_n (lv' := [(0, .ref (mt_adr (kG K) 0)), (1, .int a1), (3, .int (mt_min (σ (46 + 1 + Int32.toNatClampNeg a1) 1) (σ 1 7)))]) [1, 2, 0] dX5_load_35 rfl (by decide) rfl ?_
    refine mv_iconst (v := 0) dX5_load_36 ic_0 ?_
    refine mv_istore (lv' := [(0, .ref (mt_adr (kG K) 0)), (1, .int a1), (3, .int (mt_min (σ (46 + 1 + Int32.toNatClampNeg a1) 1) (σ 1 7))), (4, .int (0 : Int32))]) [1, 2, 3, 0] dX5_load_37 (by decide) rfl ?_
    exact vX5_load_39 hQ fu σ a1 (mt_min (σ (46 + 1 + Int32.toNatClampNeg a1) 1) (σ 1 7)) (0 : Int32)
  · refine mv_aload_n 0 dX5_load_10 rfl rfl ?_
    refine mv_iload_n 2 dX5_load_11 rfl rfl ?_
    refine mv_cVwi (As := [.int r1]) (st := []) cal_X5_finding ins_X5_finding ml_X5_71 rfl (by decide) rfl rfl (by decide) rfl (Nat.le_of_ble_eq_true rfl) dX5_load_12 (fun r s h => co_X5_finding h) (fun r4 s5 => ?_)
    exact mv_iret hQ dX5_load_15
theorem co_X5_load {l : Launch} {G : mt_G} {fu : Nat} {σ : mt_St} {a1 : Int32} {r : Int32} {σf : mt_St}  (h : fX5_load fu σ a1 = some (r, σf)) : mt_Con l G yX5_load cX5_load 5 (some .int) 3 [.ref (mt_adr G 0), .int a1] σ (some (.int r)) σf :=
  mt_con (by decide) (Nat.le_of_ble_eq_true rfl) (fun K hl hG hQ => by subst hl; subst hG; exact fun _ => vX5_load  hQ h)
theorem dX5_judge_0 : decode cX5_judge 0 = .ok (.aload_n 0, 1) := by decide +kernel
theorem dX5_judge_1 : decode cX5_judge 1 = .ok (.iload_n 1, 1) := by decide +kernel
theorem dX5_judge_2 : decode cX5_judge 2 = .ok (.invokevirtual 284, 3) := by decide +kernel
theorem dX5_judge_5 : decode cX5_judge 5 = .ok (.istore_n 2, 1) := by decide +kernel
theorem dX5_judge_6 : decode cX5_judge 6 = .ok (.iload_n 2, 1) := by decide +kernel
theorem dX5_judge_7 : decode cX5_judge 7 = .ok (.ifCond .lt 9, 3) := by decide +kernel
theorem dX5_judge_10 : decode cX5_judge 10 = .ok (.aload_n 0, 1) := by decide +kernel
theorem dX5_judge_11 : decode cX5_judge 11 = .ok (.iload_n 2, 1) := by decide +kernel
theorem dX5_judge_12 : decode cX5_judge 12 = .ok (.invokevirtual 71, 3) := by decide +kernel
theorem dX5_judge_15 : decode cX5_judge 15 = .ok (.ireturn, 1) := by decide +kernel
theorem dX5_judge_16 : decode cX5_judge 16 = .ok (.iconst 0, 1) := by decide +kernel
theorem dX5_judge_17 : decode cX5_judge 17 = .ok (.istore_n 3, 1) := by decide +kernel
theorem dX5_judge_18 : decode cX5_judge 18 = .ok (.iload_n 3, 1) := by decide +kernel
theorem dX5_judge_19 : decode cX5_judge 19 = .ok (.aload_n 0, 1) := by decide +kernel
theorem dX5_judge_20 : decode cX5_judge 20 = .ok (.getfield 59, 3) := by decide +kernel
theorem dX5_judge_23 : decode cX5_judge 23 = .ok (.iload_n 1, 1) := by decide +kernel
theorem dX5_judge_24 : decode cX5_judge 24 = .ok (.aaload, 1) := by decide +kernel
theorem dX5_judge_25 : decode cX5_judge 25 = .ok (.getfield 261, 3) := by decide +kernel
theorem dX5_judge_28 : decode cX5_judge 28 = .ok (.if_icmp .ge 47, 3) := by decide +kernel
theorem dX5_judge_31 : decode cX5_judge 31 = .ok (.aload_n 0, 1) := by decide +kernel
theorem dX5_judge_32 : decode cX5_judge 32 = .ok (.iload_n 3, 1) := by decide +kernel
theorem dX5_judge_33 : decode cX5_judge 33 = .ok (.invokevirtual 98, 3) := by decide +kernel
theorem dX5_judge_36 : decode cX5_judge 36 = .ok (.ifCond .eq 29, 3) := by decide +kernel
theorem dX5_judge_39 : decode cX5_judge 39 = .ok (.aload_n 0, 1) := by decide +kernel
theorem dX5_judge_40 : decode cX5_judge 40 = .ok (.getfield 10, 3) := by decide +kernel
theorem dX5_judge_43 : decode cX5_judge 43 = .ok (.getfield 102, 3) := by decide +kernel
theorem dX5_judge_46 : decode cX5_judge 46 = .ok (.iload_n 3, 1) := by decide +kernel
theorem dX5_judge_47 : decode cX5_judge 47 = .ok (.aaload, 1) := by decide +kernel
theorem dX5_judge_48 : decode cX5_judge 48 = .ok (.getfield 181, 3) := by decide +kernel
theorem dX5_judge_51 : decode cX5_judge 51 = .ok (.aload_n 0, 1) := by decide +kernel
theorem dX5_judge_52 : decode cX5_judge 52 = .ok (.getfield 59, 3) := by decide +kernel
theorem dX5_judge_55 : decode cX5_judge 55 = .ok (.iload_n 1, 1) := by decide +kernel
theorem dX5_judge_56 : decode cX5_judge 56 = .ok (.aaload, 1) := by decide +kernel
theorem dX5_judge_57 : decode cX5_judge 57 = .ok (.getfield 275, 3) := by decide +kernel
theorem dX5_judge_60 : decode cX5_judge 60 = .ok (.iload_n 3, 1) := by decide +kernel
theorem dX5_judge_61 : decode cX5_judge 61 = .ok (.iaload, 1) := by decide +kernel
theorem dX5_judge_62 : decode cX5_judge 62 = .ok (.if_icmp .eq 7, 3) := by decide +kernel
theorem dX5_judge_65 : decode cX5_judge 65 = .ok (.iconst 1, 1) := by decide +kernel
theorem dX5_judge_66 : decode cX5_judge 66 = .ok (.iload_n 3, 1) := by decide +kernel
theorem dX5_judge_67 : decode cX5_judge 67 = .ok (.iadd, 1) := by decide +kernel
theorem dX5_judge_68 : decode cX5_judge 68 = .ok (.ireturn, 1) := by decide +kernel
theorem dX5_judge_69 : decode cX5_judge 69 = .ok (.iinc 3 1, 3) := by decide +kernel
theorem dX5_judge_72 : decode cX5_judge 72 = .ok (.goto (-54), 3) := by decide +kernel
theorem dX5_judge_75 : decode cX5_judge 75 = .ok (.iconst 0, 1) := by decide +kernel
theorem dX5_judge_76 : decode cX5_judge 76 = .ok (.ireturn, 1) := by decide +kernel
def bX5_judge_65 (fu : Nat) (σ : mt_St) (x3 : Int32) : Option (Int32 × mt_St) :=
  some (((1 : Int32) + x3), σ)
set_option maxHeartbeats 4000000 in
set_option maxRecDepth 20000 in
theorem vX5_judge_65 {K : mt_C} {fu : Nat} {r : Int32} {σf : mt_St} (hQ : mt_R K (some .int) (some (.int r)) σf) : ∀ (σ : mt_St) (x3 : Int32), mt_V K cX5_judge RX5 4 3 σ 65 [(3, .int x3)] [] (bX5_judge_65 fu σ x3 = some (r, σf)) := by
  intro σ x3
  unfold bX5_judge_65
  refine mv_iconst (v := 1) dX5_judge_65 ic_1 ?_
  refine mv_iload_n 0 dX5_judge_66 rfl rfl ?_
  refine mv_iadd dX5_judge_67 ?_
  exact mv_iret hQ dX5_judge_68
def bX5_judge_18 (fu : Nat) : Nat → mt_St → Int32 → Int32 → Option (Int32 × mt_St)
  | 0, _, _, _ => none
  | n + 1, σ, x1, x3 =>
    mt_chk (mt_in x1 4) <|
    if (σ (46 + 1 + Int32.toNatClampNeg x1) 1) ≤ x3 then
      some ((0 : Int32), σ)
    else
      mt_ask (fX5_isTreaty fu σ x3) fun r2 =>
      if r2 = 0 then
        bX5_judge_65 fu σ x3
      else
        mt_chk (mt_in x3 8) <|
        mt_chk (mt_in x1 4) <|
        mt_chk (mt_in x3 40) <|
        if (σ ((1 + 2) + 2 + Int32.toNatClampNeg x3) 5) = (σ ((46 + 1 + Int32.toNatClampNeg x1) + 4) (Int32.toNatClampNeg x3)) then
          bX5_judge_18 fu n σ x1 (x3 + 1)
        else
          bX5_judge_65 fu σ x3
set_option maxHeartbeats 4000000 in
set_option maxRecDepth 20000 in
theorem vX5_judge_18 {K : mt_C} {fu : Nat} {r : Int32} {σf : mt_St} (hQ : mt_R K (some .int) (some (.int r)) σf) : ∀ (n : Nat) (σ : mt_St) (x1 : Int32) (x3 : Int32), mt_V K cX5_judge RX5 4 3 σ 18 [(0, .ref (mt_adr (kG K) 0)), (1, .int x1), (3, .int x3)] [] (bX5_judge_18 fu n σ x1 x3 = some (r, σf)) := by
  intro n
  induction n with
  | zero => intro σ x1 x3; intro hP; unfold bX5_judge_18 at hP; cases hP
  | succ n ih =>
    intro σ x1 x3
    unfold bX5_judge_18
    refine mv_iload_n 2 dX5_judge_18 rfl rfl ?_
    refine mv_aload_n 0 dX5_judge_19 rfl rfl ?_
    refine mg_X5_10 fl_X5_59 dX5_judge_20 ?_
    refine mv_iload_n 1 dX5_judge_23 rfl rfl ?_
    refine mv_aaldS rfl rfl dX5_judge_24 (fun h1 => ?_)
    refine mg_X1_1 (kd_st rfl h1) fl_X5_261 dX5_judge_25 ?_
    refine mv_icmp_ge 75 dX5_judge_28 (by decide) ?_ ?_
    · refine mv_iconst (v := 0) dX5_judge_75 ic_0 ?_
      exact mv_iret hQ dX5_judge_76
    · refine mv_aload_n 0 dX5_judge_31 rfl rfl ?_
      refine mv_iload_n 2 dX5_judge_32 rfl rfl ?_
      refine mv_cVri (As := [.int x3]) (st := []) cal_X5_isTreaty ins_X5_isTreaty ml_X5_98 rfl (by decide) rfl rfl (by decide) rfl (Nat.le_of_ble_eq_true rfl) dX5_judge_33 (fun r h => co_X5_isTreaty h) (fun r2 => ?_)
      refine mv_if_eq 65 dX5_judge_36 (by decide) ?_ ?_
      · refine mv_sub (lv' := [(3, .int x3)]) [2] rfl ?_
        exact vX5_judge_65 hQ σ x3
      · refine mv_aload_n 0 dX5_judge_39 rfl rfl ?_
        refine mg_X5_0 fl_X5_10 dX5_judge_40 ?_
        refine mg_X4_6 rfl fl_X5_102 dX5_judge_43 ?_
        refine mv_iload_n 2 dX5_judge_46 rfl rfl ?_
        refine mv_aaldT (kd_w2 rfl) (ln_w2 rfl) dX5_judge_47 (fun h3 => ?_)
        refine mg_X3_5 (kd_tr (kd_w2 rfl) h3) fl_X5_181 dX5_judge_48 ?_
        refine mv_aload_n 0 dX5_judge_51 rfl rfl ?_
        refine mg_X5_10 fl_X5_59 dX5_judge_52 ?_
        refine mv_iload_n 1 dX5_judge_55 rfl rfl ?_
        refine mv_aaldS rfl rfl dX5_judge_56 (fun h4 => ?_)
        refine mg_X1_2 (kd_st rfl h4) fl_X5_275 dX5_judge_57 ?_
        refine mv_iload_n 2 dX5_judge_60 rfl rfl ?_
        refine mv_iald 40 (kd_sh (kd_st rfl h4)) (ln_sh (kd_st rfl h4)) dX5_judge_61 ?_
        refine mv_icmp_eq 69 dX5_judge_62 (by decide) ?_ ?_
        · refine mv_iinc (k0 := 2) (v := x3 + 1) (lv' := [(0, .ref (mt_adr (kG K) 0)), (1, .int x1), (3, .int (x3 + 1))]) [1, 2, 0] dX5_judge_69 rfl (mt_inc ic_1) (by decide) rfl ?_
          refine mv_goto 18 dX5_judge_72 (by decide) ?_
          exact ih σ x1 (x3 + 1)
        · refine mv_sub (lv' := [(3, .int x3)]) [2] rfl ?_
          exact vX5_judge_65 hQ σ x3
def fX5_judge (fu : Nat) (σ : mt_St) (a1 : Int32) : Option (Int32 × mt_St) :=
  mt_ask (fX5_faultOfSheet fu σ a1) fun r1 =>
  if r1 < 0 then
    bX5_judge_18 fu fu σ a1 (0 : Int32)
  else
    mt_call (fX5_finding fu σ r1) fun r2 s3 =>
    some (r2, s3)
set_option maxHeartbeats 4000000 in
set_option maxRecDepth 20000 in
theorem vX5_judge {K : mt_C} {fu : Nat} {σ : mt_St} {a1 : Int32} {r : Int32} {σf : mt_St} (hQ : mt_R K (some .int) (some (.int r)) σf) : mt_V K cX5_judge RX5 4 3 σ 0 [(0, .ref (mt_adr (kG K) 0)), (1, .int a1)] [] (fX5_judge fu σ a1 = some (r, σf)) := by
  unfold fX5_judge
  refine mv_aload_n 0 dX5_judge_0 rfl rfl ?_
  refine mv_iload_n 1 dX5_judge_1 rfl rfl ?_
  refine mv_cVri (As := [.int a1]) (st := []) cal_X5_faultOfSheet ins_X5_faultOfSheet ml_X5_284 rfl (by decide) rfl rfl (by decide) rfl (Nat.le_of_ble_eq_true rfl) dX5_judge_2 (fun r h => co_X5_faultOfSheet h) (fun r1 => ?_)
  refine mv_istore_n (lv' := [(0, .ref (mt_adr (kG K) 0)), (1, .int a1), (2, .int r1)]) [1, 2, 0] dX5_judge_5 rfl (by decide) rfl ?_
  refine mv_iload_n 2 dX5_judge_6 rfl rfl ?_
  refine mv_if_lt 16 dX5_judge_7 (by decide) ?_ ?_
  · refine mv_iconst (v := 0) dX5_judge_16 ic_0 ?_
    refine mv_istore_n (lv' := [(0, .ref (mt_adr (kG K) 0)), (1, .int a1), (3, .int (0 : Int32))]) [1, 2, 0] dX5_judge_17 rfl (by decide) rfl ?_
    exact vX5_judge_18 hQ fu σ a1 (0 : Int32)
  · refine mv_aload_n 0 dX5_judge_10 rfl rfl ?_
    refine mv_iload_n 2 dX5_judge_11 rfl rfl ?_
    refine mv_cVwi (As := [.int r1]) (st := []) cal_X5_finding ins_X5_finding ml_X5_71 rfl (by decide) rfl rfl (by decide) rfl (Nat.le_of_ble_eq_true rfl) dX5_judge_12 (fun r s h => co_X5_finding h) (fun r2 s3 => ?_)
    exact mv_iret hQ dX5_judge_15
theorem co_X5_judge {l : Launch} {G : mt_G} {fu : Nat} {σ : mt_St} {a1 : Int32} {r : Int32} {σf : mt_St}  (h : fX5_judge fu σ a1 = some (r, σf)) : mt_Con l G yX5_judge cX5_judge 4 (some .int) 3 [.ref (mt_adr G 0), .int a1] σ (some (.int r)) σf :=
  mt_con (by decide) (Nat.le_of_ble_eq_true rfl) (fun K hl hG hQ => by subst hl; subst hG; exact fun _ => vX5_judge  hQ h)
theorem dX5_image_0 : decode cX5_image 0 = .ok (.aload_n 0, 1) := by decide +kernel
theorem dX5_image_1 : decode cX5_image 1 = .ok (.getfield 16, 3) := by decide +kernel
theorem dX5_image_4 : decode cX5_image 4 = .ok (.aload_n 0, 1) := by decide +kernel
theorem dX5_image_5 : decode cX5_image 5 = .ok (.getfield 10, 3) := by decide +kernel
theorem dX5_image_8 : decode cX5_image 8 = .ok (.invokevirtual 168, 3) := by decide +kernel
theorem dX5_image_11 : decode cX5_image 11 = .ok (.aload_n 0, 1) := by decide +kernel
theorem dX5_image_12 : decode cX5_image 12 = .ok (.iconst 1, 1) := by decide +kernel
theorem dX5_image_13 : decode cX5_image 13 = .ok (.putfield 19, 3) := by decide +kernel
theorem dX5_image_16 : decode cX5_image 16 = .ok (.iconst 1, 1) := by decide +kernel
theorem dX5_image_17 : decode cX5_image 17 = .ok (.ireturn, 1) := by decide +kernel
def fX5_image (fu : Nat) (σ : mt_St) : Option (Int32 × mt_St) :=
  mt_call (fX4_become fu σ 13 1) fun _ s2 =>
  mt_bnd (mt_up s2 0 2 (1 : Int32)) fun s3 =>
  some ((1 : Int32), s3)
set_option maxHeartbeats 4000000 in
set_option maxRecDepth 20000 in
theorem vX5_image {K : mt_C} {fu : Nat} {σ : mt_St} {r : Int32} {σf : mt_St} (hQ : mt_R K (some .int) (some (.int r)) σf) : mt_V K cX5_image RX5 1 2 σ 0 [(0, .ref (mt_adr (kG K) 0))] [] (fX5_image fu σ = some (r, σf)) := by
  unfold fX5_image
  refine mv_aload_n 0 dX5_image_0 rfl rfl ?_
  refine mg_X5_1 fl_X5_16 dX5_image_1 ?_
  refine mv_aload_n 0 dX5_image_4 rfl rfl ?_
  refine mg_X5_0 fl_X5_10 dX5_image_5 ?_
  refine mv_cVwv (As := [.ref (mt_adr (kG K) 1)]) (st := []) cal_X4_become ins_X4_become ml_X5_168 rfl (by decide) rfl rfl (by decide) rfl (Nat.le_of_ble_eq_true rfl) dX5_image_8 (fun r s h => co_X4_become rfl rfl h) (fun r1 s2 => ?_)
  refine mv_aload_n 0 dX5_image_11 rfl rfl ?_
  refine mv_iconst (v := 1) dX5_image_12 ic_1 ?_
  refine mz_X5_2 (by decide) fl_X5_19 dX5_image_13 (fun s3 => ?_)
  refine mv_iconst (v := 1) dX5_image_16 ic_1 ?_
  exact mv_iret hQ dX5_image_17
theorem co_X5_image {l : Launch} {G : mt_G} {fu : Nat} {σ : mt_St} {r : Int32} {σf : mt_St}  (h : fX5_image fu σ = some (r, σf)) : mt_Con l G yX5_image cX5_image 1 (some .int) 2 [.ref (mt_adr G 0)] σ (some (.int r)) σf :=
  mt_con (by decide) (Nat.le_of_ble_eq_true rfl) (fun K hl hG hQ => by subst hl; subst hG; exact fun _ => vX5_image  hQ h)
theorem dX5_undo_0 : decode cX5_undo 0 = .ok (.aload_n 0, 1) := by decide +kernel
theorem dX5_undo_1 : decode cX5_undo 1 = .ok (.getfield 19, 3) := by decide +kernel
theorem dX5_undo_4 : decode cX5_undo 4 = .ok (.ifCond .ne 9, 3) := by decide +kernel
theorem dX5_undo_7 : decode cX5_undo 7 = .ok (.aload_n 0, 1) := by decide +kernel
theorem dX5_undo_8 : decode cX5_undo 8 = .ok (.iconst 3, 1) := by decide +kernel
theorem dX5_undo_9 : decode cX5_undo 9 = .ok (.invokevirtual 71, 3) := by decide +kernel
theorem dX5_undo_12 : decode cX5_undo 12 = .ok (.ireturn, 1) := by decide +kernel
theorem dX5_undo_13 : decode cX5_undo 13 = .ok (.aload_n 0, 1) := by decide +kernel
theorem dX5_undo_14 : decode cX5_undo 14 = .ok (.getfield 10, 3) := by decide +kernel
theorem dX5_undo_17 : decode cX5_undo 17 = .ok (.aload_n 0, 1) := by decide +kernel
theorem dX5_undo_18 : decode cX5_undo 18 = .ok (.getfield 16, 3) := by decide +kernel
theorem dX5_undo_21 : decode cX5_undo 21 = .ok (.invokevirtual 168, 3) := by decide +kernel
theorem dX5_undo_24 : decode cX5_undo 24 = .ok (.aload_n 0, 1) := by decide +kernel
theorem dX5_undo_25 : decode cX5_undo 25 = .ok (.getfield 10, 3) := by decide +kernel
theorem dX5_undo_28 : decode cX5_undo 28 = .ok (.getfield 125, 3) := by decide +kernel
theorem dX5_undo_31 : decode cX5_undo 31 = .ok (.ireturn, 1) := by decide +kernel
def fX5_undo (fu : Nat) (σ : mt_St) : Option (Int32 × mt_St) :=
  if (σ 0 2) = 0 then
    mt_call (fX5_finding fu σ (3 : Int32)) fun r3 s4 =>
    some (r3, s4)
  else
    mt_call (fX4_become fu σ 1 13) fun _ s2 =>
    some ((s2 1 4), s2)
set_option maxHeartbeats 4000000 in
set_option maxRecDepth 20000 in
theorem vX5_undo {K : mt_C} {fu : Nat} {σ : mt_St} {r : Int32} {σf : mt_St} (hQ : mt_R K (some .int) (some (.int r)) σf) : mt_V K cX5_undo RX5 1 2 σ 0 [(0, .ref (mt_adr (kG K) 0))] [] (fX5_undo fu σ = some (r, σf)) := by
  unfold fX5_undo
  refine mv_aload_n 0 dX5_undo_0 rfl rfl ?_
  refine mg_X5_2 fl_X5_19 dX5_undo_1 ?_
  refine mv_if_ne 13 dX5_undo_4 (by decide) ?_ ?_
  · refine mv_aload_n 0 dX5_undo_13 rfl rfl ?_
    refine mg_X5_0 fl_X5_10 dX5_undo_14 ?_
    refine mv_aload_n 0 dX5_undo_17 rfl rfl ?_
    refine mg_X5_1 fl_X5_16 dX5_undo_18 ?_
    refine mv_cVwv (As := [.ref (mt_adr (kG K) 13)]) (st := []) cal_X4_become ins_X4_become ml_X5_168 rfl (by decide) rfl rfl (by decide) rfl (Nat.le_of_ble_eq_true rfl) dX5_undo_21 (fun r s h => co_X4_become rfl rfl h) (fun r1 s2 => ?_)
    refine mv_aload_n 0 dX5_undo_24 rfl rfl ?_
    refine mg_X5_0 fl_X5_10 dX5_undo_25 ?_
    refine mg_X4_4 rfl fl_X5_125 dX5_undo_28 ?_
    exact mv_iret hQ dX5_undo_31
  · refine mv_aload_n 0 dX5_undo_7 rfl rfl ?_
    refine mv_iconst (v := 3) dX5_undo_8 ic_3 ?_
    refine mv_cVwi (As := [.int (3 : Int32)]) (st := []) cal_X5_finding ins_X5_finding ml_X5_71 rfl (by decide) rfl rfl (by decide) rfl (Nat.le_of_ble_eq_true rfl) dX5_undo_9 (fun r s h => co_X5_finding h) (fun r3 s4 => ?_)
    exact mv_iret hQ dX5_undo_12
theorem co_X5_undo {l : Launch} {G : mt_G} {fu : Nat} {σ : mt_St} {r : Int32} {σf : mt_St}  (h : fX5_undo fu σ = some (r, σf)) : mt_Con l G yX5_undo cX5_undo 1 (some .int) 2 [.ref (mt_adr G 0)] σ (some (.int r)) σf :=
  mt_con (by decide) (Nat.le_of_ble_eq_true rfl) (fun K hl hG hQ => by subst hl; subst hG; exact fun _ => vX5_undo  hQ h)
theorem dX5_forget_0 : decode cX5_forget 0 = .ok (.aload_n 0, 1) := by decide +kernel
theorem dX5_forget_1 : decode cX5_forget 1 = .ok (.getfield 19, 3) := by decide +kernel
theorem dX5_forget_4 : decode cX5_forget 4 = .ok (.ifCond .eq 7, 3) := by decide +kernel
theorem dX5_forget_7 : decode cX5_forget 7 = .ok (.iconst 1, 1) := by decide +kernel
theorem dX5_forget_8 : decode cX5_forget 8 = .ok (.goto 4, 3) := by decide +kernel
theorem dX5_forget_11 : decode cX5_forget 11 = .ok (.iconst 0, 1) := by decide +kernel
theorem dX5_forget_12 : decode cX5_forget 12 = .ok (.istore_n 1, 1) := by decide +kernel
theorem dX5_forget_13 : decode cX5_forget 13 = .ok (.aload_n 0, 1) := by decide +kernel
theorem dX5_forget_14 : decode cX5_forget 14 = .ok (.iconst 0, 1) := by decide +kernel
theorem dX5_forget_15 : decode cX5_forget 15 = .ok (.putfield 19, 3) := by decide +kernel
theorem dX5_forget_18 : decode cX5_forget 18 = .ok (.iload_n 1, 1) := by decide +kernel
theorem dX5_forget_19 : decode cX5_forget 19 = .ok (.ireturn, 1) := by decide +kernel
def bX5_forget_12 (fu : Nat) (σ : mt_St) (y0 : Int32) : Option (Int32 × mt_St) :=
  mt_bnd (mt_up σ 0 2 (0 : Int32)) fun s1 =>
  some (y0, s1)
set_option maxHeartbeats 4000000 in
set_option maxRecDepth 20000 in
theorem vX5_forget_12 {K : mt_C} {fu : Nat} {r : Int32} {σf : mt_St} (hQ : mt_R K (some .int) (some (.int r)) σf) : ∀ (σ : mt_St) (y0 : Int32), mt_V K cX5_forget RX5 2 0 σ 12 [(0, .ref (mt_adr (kG K) 0))] [.int y0] (bX5_forget_12 fu σ y0 = some (r, σf)) := by
  intro σ y0
  unfold bX5_forget_12
  refine mv_istore_n (lv' := [(0, .ref (mt_adr (kG K) 0)), (1, .int y0)]) [1, 0] dX5_forget_12 rfl (by decide) rfl ?_
  refine mv_aload_n 0 dX5_forget_13 rfl rfl ?_
  refine mv_iconst (v := 0) dX5_forget_14 ic_0 ?_
  refine mz_X5_2 (by decide) fl_X5_19 dX5_forget_15 (fun s1 => ?_)
  refine mv_iload_n 1 dX5_forget_18 rfl rfl ?_
  exact mv_iret hQ dX5_forget_19
def fX5_forget (fu : Nat) (σ : mt_St) : Option (Int32 × mt_St) :=
  if (σ 0 2) = 0 then
    bX5_forget_12 fu σ (0 : Int32)
  else
    bX5_forget_12 fu σ (1 : Int32)
set_option maxHeartbeats 4000000 in
set_option maxRecDepth 20000 in
theorem vX5_forget {K : mt_C} {fu : Nat} {σ : mt_St} {r : Int32} {σf : mt_St} (hQ : mt_R K (some .int) (some (.int r)) σf) : mt_V K cX5_forget RX5 2 0 σ 0 [(0, .ref (mt_adr (kG K) 0))] [] (fX5_forget fu σ = some (r, σf)) := by
  unfold fX5_forget
  refine mv_aload_n 0 dX5_forget_0 rfl rfl ?_
  refine mg_X5_2 fl_X5_19 dX5_forget_1 ?_
  refine mv_if_eq 11 dX5_forget_4 (by decide) ?_ ?_
  · refine mv_iconst (v := 0) dX5_forget_11 ic_0 ?_
    exact vX5_forget_12 hQ σ (0 : Int32)
  · refine mv_iconst (v := 1) dX5_forget_7 ic_1 ?_
    refine mv_goto 12 dX5_forget_8 (by decide) ?_
    exact vX5_forget_12 hQ σ (1 : Int32)
theorem co_X5_forget {l : Launch} {G : mt_G} {fu : Nat} {σ : mt_St} {r : Int32} {σf : mt_St}  (h : fX5_forget fu σ = some (r, σf)) : mt_Con l G yX5_forget cX5_forget 2 (some .int) 0 [.ref (mt_adr G 0)] σ (some (.int r)) σf :=
  mt_con (by decide) (Nat.le_of_ble_eq_true rfl) (fun K hl hG hQ => by subst hl; subst hG; exact fun _ => vX5_forget  hQ h)
theorem dX5_count_0 : decode cX5_count 0 = .ok (.iload_n 1, 1) := by decide +kernel
theorem dX5_count_1 : decode cX5_count 1 = .ok (.tableswitch 114 0 7 #[47, 55, 63, 74, 82, 90, 98, 106], 47) := by decide +kernel
theorem dX5_count_48 : decode cX5_count 48 = .ok (.aload_n 0, 1) := by decide +kernel
theorem dX5_count_49 : decode cX5_count 49 = .ok (.getfield 10, 3) := by decide +kernel
theorem dX5_count_52 : decode cX5_count 52 = .ok (.getfield 125, 3) := by decide +kernel
theorem dX5_count_55 : decode cX5_count 55 = .ok (.ireturn, 1) := by decide +kernel
theorem dX5_count_56 : decode cX5_count 56 = .ok (.aload_n 0, 1) := by decide +kernel
theorem dX5_count_57 : decode cX5_count 57 = .ok (.getfield 10, 3) := by decide +kernel
theorem dX5_count_60 : decode cX5_count 60 = .ok (.getfield 91, 3) := by decide +kernel
theorem dX5_count_63 : decode cX5_count 63 = .ok (.ireturn, 1) := by decide +kernel
theorem dX5_count_64 : decode cX5_count 64 = .ok (.aload_n 0, 1) := by decide +kernel
theorem dX5_count_65 : decode cX5_count 65 = .ok (.getfield 10, 3) := by decide +kernel
theorem dX5_count_68 : decode cX5_count 68 = .ok (.invokevirtual 133, 3) := by decide +kernel
theorem dX5_count_71 : decode cX5_count 71 = .ok (.invokestatic 196, 3) := by decide +kernel
theorem dX5_count_74 : decode cX5_count 74 = .ok (.ireturn, 1) := by decide +kernel
theorem dX5_count_75 : decode cX5_count 75 = .ok (.aload_n 0, 1) := by decide +kernel
theorem dX5_count_76 : decode cX5_count 76 = .ok (.getfield 10, 3) := by decide +kernel
theorem dX5_count_79 : decode cX5_count 79 = .ok (.getfield 137, 3) := by decide +kernel
theorem dX5_count_82 : decode cX5_count 82 = .ok (.ireturn, 1) := by decide +kernel
theorem dX5_count_83 : decode cX5_count 83 = .ok (.aload_n 0, 1) := by decide +kernel
theorem dX5_count_84 : decode cX5_count 84 = .ok (.getfield 10, 3) := by decide +kernel
theorem dX5_count_87 : decode cX5_count 87 = .ok (.invokevirtual 140, 3) := by decide +kernel
theorem dX5_count_90 : decode cX5_count 90 = .ok (.ireturn, 1) := by decide +kernel
theorem dX5_count_91 : decode cX5_count 91 = .ok (.aload_n 0, 1) := by decide +kernel
theorem dX5_count_92 : decode cX5_count 92 = .ok (.getfield 53, 3) := by decide +kernel
theorem dX5_count_95 : decode cX5_count 95 = .ok (.getfield 238, 3) := by decide +kernel
theorem dX5_count_98 : decode cX5_count 98 = .ok (.ireturn, 1) := by decide +kernel
theorem dX5_count_99 : decode cX5_count 99 = .ok (.aload_n 0, 1) := by decide +kernel
theorem dX5_count_100 : decode cX5_count 100 = .ok (.getfield 10, 3) := by decide +kernel
theorem dX5_count_103 : decode cX5_count 103 = .ok (.getfield 235, 3) := by decide +kernel
theorem dX5_count_106 : decode cX5_count 106 = .ok (.ireturn, 1) := by decide +kernel
theorem dX5_count_107 : decode cX5_count 107 = .ok (.aload_n 0, 1) := by decide +kernel
theorem dX5_count_108 : decode cX5_count 108 = .ok (.getfield 10, 3) := by decide +kernel
theorem dX5_count_111 : decode cX5_count 111 = .ok (.invokevirtual 292, 3) := by decide +kernel
theorem dX5_count_114 : decode cX5_count 114 = .ok (.ireturn, 1) := by decide +kernel
theorem dX5_count_115 : decode cX5_count 115 = .ok (.aload_n 0, 1) := by decide +kernel
theorem dX5_count_116 : decode cX5_count 116 = .ok (.iconst 0, 1) := by decide +kernel
theorem dX5_count_117 : decode cX5_count 117 = .ok (.invokevirtual 71, 3) := by decide +kernel
theorem dX5_count_120 : decode cX5_count 120 = .ok (.ireturn, 1) := by decide +kernel
def fX5_count (fu : Nat) (σ : mt_St) (a1 : Int32) : Option (Int32 × mt_St) :=
  if a1 = 0 then
    some ((σ 1 4), σ)
  else
  if a1 = 1 then
    some ((σ 1 7), σ)
  else
  if a1 = 2 then
    mt_ask (fX4_inForce fu σ 1) fun r1 =>
    mt_ask (fJ6_bitCount_0f7a4 fu r1) fun r2 =>
    some (r2, σ)
  else
  if a1 = 3 then
    some ((σ 1 3), σ)
  else
  if a1 = 4 then
    mt_ask (fX4_allBroken fu σ 1) fun r3 =>
    some (r3, σ)
  else
  if a1 = 5 then
    some ((σ 44 1), σ)
  else
  if a1 = 6 then
    some ((σ 1 5), σ)
  else
  if a1 = 7 then
    mt_ask (fX4_spotsHolding fu σ 1) fun r4 =>
    some (r4, σ)
  else
  mt_call (fX5_finding fu σ (0 : Int32)) fun r5 s6 =>
  some (r5, s6)
set_option maxHeartbeats 4000000 in
set_option maxRecDepth 20000 in
theorem vX5_count {K : mt_C} {fu : Nat} {σ : mt_St} {a1 : Int32} {r : Int32} {σf : mt_St} (hQ : mt_R K (some .int) (some (.int r)) σf) : mt_V K cX5_count RX5 2 2 σ 0 [(0, .ref (mt_adr (kG K) 0)), (1, .int a1)] [] (fX5_count fu σ a1 = some (r, σf)) := by
  unfold fX5_count
  refine mv_iload_n 1 dX5_count_0 rfl rfl ?_
  refine mv_case (fun e0 => ?_) (fun n0 => ?_)
  · refine mv_tsin 0 48 e0 dX5_count_1 (by decide) (by decide) rfl (by decide) ?_
    refine mv_aload_n 0 dX5_count_48 rfl rfl ?_
    refine mg_X5_0 fl_X5_10 dX5_count_49 ?_
    refine mg_X4_4 rfl fl_X5_125 dX5_count_52 ?_
    exact mv_iret hQ dX5_count_55
  refine mv_case (fun e1 => ?_) (fun n1 => ?_)
  · refine mv_tsin 1 56 e1 dX5_count_1 (by decide) (by decide) rfl (by decide) ?_
    refine mv_aload_n 0 dX5_count_56 rfl rfl ?_
    refine mg_X5_0 fl_X5_10 dX5_count_57 ?_
    refine mg_X4_7 rfl fl_X5_91 dX5_count_60 ?_
    exact mv_iret hQ dX5_count_63
  refine mv_case (fun e2 => ?_) (fun n2 => ?_)
  · refine mv_tsin 2 64 e2 dX5_count_1 (by decide) (by decide) rfl (by decide) ?_
    refine mv_aload_n 0 dX5_count_64 rfl rfl ?_
    refine mg_X5_0 fl_X5_10 dX5_count_65 ?_
    refine mv_cVri (As := []) (st := []) cal_X4_inForce ins_X4_inForce ml_X5_133 rfl (by decide) rfl rfl (by decide) rfl (Nat.le_of_ble_eq_true rfl) dX5_count_68 (fun r h => co_X4_inForce rfl h) (fun r1 => ?_)
    refine mv_cSri (As := [.int r1]) (st := []) cal_J6_bitCount_0f7a4 sta_J6_bitCount_0f7a4 ml_X5_196 rfl (by decide) rfl (Nat.le_of_ble_eq_true rfl) dX5_count_71 (fun r h => co_J6_bitCount_0f7a4 h) (fun r2 => ?_)
    exact mv_iret hQ dX5_count_74
  refine mv_case (fun e3 => ?_) (fun n3 => ?_)
  · refine mv_tsin 3 75 e3 dX5_count_1 (by decide) (by decide) rfl (by decide) ?_
    refine mv_aload_n 0 dX5_count_75 rfl rfl ?_
    refine mg_X5_0 fl_X5_10 dX5_count_76 ?_
    refine mg_X4_3 rfl fl_X5_137 dX5_count_79 ?_
    exact mv_iret hQ dX5_count_82
  refine mv_case (fun e4 => ?_) (fun n4 => ?_)
  · refine mv_tsin 4 83 e4 dX5_count_1 (by decide) (by decide) rfl (by decide) ?_
    refine mv_aload_n 0 dX5_count_83 rfl rfl ?_
    refine mg_X5_0 fl_X5_10 dX5_count_84 ?_
    refine mv_cVri (As := []) (st := []) cal_X4_allBroken ins_X4_allBroken ml_X5_140 rfl (by decide) rfl rfl (by decide) rfl (Nat.le_of_ble_eq_true rfl) dX5_count_87 (fun r h => co_X4_allBroken rfl h) (fun r3 => ?_)
    exact mv_iret hQ dX5_count_90
  refine mv_case (fun e5 => ?_) (fun n5 => ?_)
  · refine mv_tsin 5 91 e5 dX5_count_1 (by decide) (by decide) rfl (by decide) ?_
    refine mv_aload_n 0 dX5_count_91 rfl rfl ?_
    refine mg_X5_9 fl_X5_53 dX5_count_92 ?_
    refine mg_X0_1 fl_X5_238 dX5_count_95 ?_
    exact mv_iret hQ dX5_count_98
  refine mv_case (fun e6 => ?_) (fun n6 => ?_)
  · refine mv_tsin 6 99 e6 dX5_count_1 (by decide) (by decide) rfl (by decide) ?_
    refine mv_aload_n 0 dX5_count_99 rfl rfl ?_
    refine mg_X5_0 fl_X5_10 dX5_count_100 ?_
    refine mg_X4_5 rfl fl_X5_235 dX5_count_103 ?_
    exact mv_iret hQ dX5_count_106
  refine mv_case (fun e7 => ?_) (fun n7 => ?_)
  · refine mv_tsin 7 107 e7 dX5_count_1 (by decide) (by decide) rfl (by decide) ?_
    refine mv_aload_n 0 dX5_count_107 rfl rfl ?_
    refine mg_X5_0 fl_X5_10 dX5_count_108 ?_
    refine mv_cVri (As := []) (st := []) cal_X4_spotsHolding ins_X4_spotsHolding ml_X5_292 rfl (by decide) rfl rfl (by decide) rfl (Nat.le_of_ble_eq_true rfl) dX5_count_111 (fun r h => co_X4_spotsHolding rfl h) (fun r4 => ?_)
    exact mv_iret hQ dX5_count_114
  refine mv_tsout 115 (by have z0 := mt_ne (z := 0) n0 (by decide); have z1 := mt_ne (z := 1) n1 (by decide); have z2 := mt_ne (z := 2) n2 (by decide); have z3 := mt_ne (z := 3) n3 (by decide); have z4 := mt_ne (z := 4) n4 (by decide); have z5 := mt_ne (z := 5) n5 (by decide); have z6 := mt_ne (z := 6) n6 (by decide); have z7 := mt_ne (z := 7) n7 (by decide); omega) dX5_count_1 (by decide) ?_
  refine mv_aload_n 0 dX5_count_115 rfl rfl ?_
  refine mv_iconst (v := 0) dX5_count_116 ic_0 ?_
  refine mv_cVwi (As := [.int (0 : Int32)]) (st := []) cal_X5_finding ins_X5_finding ml_X5_71 rfl (by decide) rfl rfl (by decide) rfl (Nat.le_of_ble_eq_true rfl) dX5_count_117 (fun r s h => co_X5_finding h) (fun r5 s6 => ?_)
  exact mv_iret hQ dX5_count_120
theorem co_X5_count {l : Launch} {G : mt_G} {fu : Nat} {σ : mt_St} {a1 : Int32} {r : Int32} {σf : mt_St}  (h : fX5_count fu σ a1 = some (r, σf)) : mt_Con l G yX5_count cX5_count 2 (some .int) 2 [.ref (mt_adr G 0), .int a1] σ (some (.int r)) σf :=
  mt_con (by decide) (Nat.le_of_ble_eq_true rfl) (fun K hl hG hQ => by subst hl; subst hG; exact fun _ => vX5_count  hQ h)
theorem dX5_status_0 : decode cX5_status 0 = .ok (.iload_n 1, 1) := by decide +kernel
theorem dX5_status_1 : decode cX5_status 1 = .ok (.iconst (-1), 1) := by decide +kernel
theorem dX5_status_2 : decode cX5_status 2 = .ok (.if_icmp .ne 30, 3) := by decide +kernel
theorem dX5_status_5 : decode cX5_status 5 = .ok (.iconst 0, 1) := by decide +kernel
theorem dX5_status_6 : decode cX5_status 6 = .ok (.istore_n 2, 1) := by decide +kernel
theorem dX5_status_7 : decode cX5_status 7 = .ok (.iconst 0, 1) := by decide +kernel
theorem dX5_status_8 : decode cX5_status 8 = .ok (.istore_n 3, 1) := by decide +kernel
theorem dX5_status_9 : decode cX5_status 9 = .ok (.iload_n 3, 1) := by decide +kernel
theorem dX5_status_10 : decode cX5_status 10 = .ok (.bipush 7, 2) := by decide +kernel
theorem dX5_status_12 : decode cX5_status 12 = .ok (.if_icmp .ge 18, 3) := by decide +kernel
theorem dX5_status_15 : decode cX5_status 15 = .ok (.iload_n 2, 1) := by decide +kernel
theorem dX5_status_16 : decode cX5_status 16 = .ok (.aload_n 0, 1) := by decide +kernel
theorem dX5_status_17 : decode cX5_status 17 = .ok (.getfield 63, 3) := by decide +kernel
theorem dX5_status_20 : decode cX5_status 20 = .ok (.iload_n 3, 1) := by decide +kernel
theorem dX5_status_21 : decode cX5_status 21 = .ok (.iaload, 1) := by decide +kernel
theorem dX5_status_22 : decode cX5_status 22 = .ok (.iadd, 1) := by decide +kernel
theorem dX5_status_23 : decode cX5_status 23 = .ok (.istore_n 2, 1) := by decide +kernel
theorem dX5_status_24 : decode cX5_status 24 = .ok (.iinc 3 1, 3) := by decide +kernel
theorem dX5_status_27 : decode cX5_status 27 = .ok (.goto (-18), 3) := by decide +kernel
theorem dX5_status_30 : decode cX5_status 30 = .ok (.iload_n 2, 1) := by decide +kernel
theorem dX5_status_31 : decode cX5_status 31 = .ok (.ireturn, 1) := by decide +kernel
theorem dX5_status_32 : decode cX5_status 32 = .ok (.iload_n 1, 1) := by decide +kernel
theorem dX5_status_33 : decode cX5_status 33 = .ok (.bipush 6, 2) := by decide +kernel
theorem dX5_status_35 : decode cX5_status 35 = .ok (.invokestatic 67, 3) := by decide +kernel
theorem dX5_status_38 : decode cX5_status 38 = .ok (.ifCond .eq 12, 3) := by decide +kernel
theorem dX5_status_41 : decode cX5_status 41 = .ok (.aload_n 0, 1) := by decide +kernel
theorem dX5_status_42 : decode cX5_status 42 = .ok (.getfield 63, 3) := by decide +kernel
theorem dX5_status_45 : decode cX5_status 45 = .ok (.iload_n 1, 1) := by decide +kernel
theorem dX5_status_46 : decode cX5_status 46 = .ok (.iaload, 1) := by decide +kernel
theorem dX5_status_47 : decode cX5_status 47 = .ok (.goto 8, 3) := by decide +kernel
theorem dX5_status_50 : decode cX5_status 50 = .ok (.aload_n 0, 1) := by decide +kernel
theorem dX5_status_51 : decode cX5_status 51 = .ok (.iconst 0, 1) := by decide +kernel
theorem dX5_status_52 : decode cX5_status 52 = .ok (.invokevirtual 71, 3) := by decide +kernel
theorem dX5_status_55 : decode cX5_status 55 = .ok (.ireturn, 1) := by decide +kernel
def bX5_status_55 (fu : Nat) (σ : mt_St) (y0 : Int32) : Option (Int32 × mt_St) :=
  some (y0, σ)
set_option maxHeartbeats 4000000 in
set_option maxRecDepth 20000 in
theorem vX5_status_55 {K : mt_C} {fu : Nat} {r : Int32} {σf : mt_St} (hQ : mt_R K (some .int) (some (.int r)) σf) : ∀ (σ : mt_St) (y0 : Int32), mt_V K cX5_status RX5 4 2 σ 55 [] [.int y0] (bX5_status_55 fu σ y0 = some (r, σf)) := by
  intro σ y0
  unfold bX5_status_55
  exact mv_iret hQ dX5_status_55
def bX5_status_9 (fu : Nat) : Nat → mt_St → Int32 → Int32 → Option (Int32 × mt_St)
  | 0, _, _, _ => none
  | n + 1, σ, x2, x3 =>
    if (7 : Int32) ≤ x3 then
      some (x2, σ)
    else
      mt_chk (mt_in x3 7) <|
      bX5_status_9 fu n σ (x2 + (σ 55 (Int32.toNatClampNeg x3))) (x3 + 1)
set_option maxHeartbeats 4000000 in
set_option maxRecDepth 20000 in
theorem vX5_status_9 {K : mt_C} {fu : Nat} {r : Int32} {σf : mt_St} (hQ : mt_R K (some .int) (some (.int r)) σf) : ∀ (n : Nat) (σ : mt_St) (x2 : Int32) (x3 : Int32), mt_V K cX5_status RX5 4 2 σ 9 [(0, .ref (mt_adr (kG K) 0)), (2, .int x2), (3, .int x3)] [] (bX5_status_9 fu n σ x2 x3 = some (r, σf)) := by
  intro n
  induction n with
  | zero => intro σ x2 x3; intro hP; unfold bX5_status_9 at hP; cases hP
  | succ n ih =>
    intro σ x2 x3
    unfold bX5_status_9
    refine mv_iload_n 2 dX5_status_9 rfl rfl ?_
    refine mv_bipush (v := 7) dX5_status_10 bp_7 ?_
    refine mv_icmp_ge 30 dX5_status_12 (by decide) ?_ ?_
    · refine mv_iload_n 1 dX5_status_30 rfl rfl ?_
      exact mv_iret hQ dX5_status_31
    · refine mv_iload_n 1 dX5_status_15 rfl rfl ?_
      refine mv_aload_n 0 dX5_status_16 rfl rfl ?_
      refine mg_X5_11 fl_X5_63 dX5_status_17 ?_
      refine mv_iload_n 2 dX5_status_20 rfl rfl ?_
      refine mv_iald 7 rfl rfl dX5_status_21 ?_
      refine mv_iadd dX5_status_22 ?_
      refine mv_istore_n (lv' := [(0, .ref (mt_adr (kG K) 0)), (2, .int (x2 + (σ 55 (Int32.toNatClampNeg x3)))), (3, .int x3)]) [1, 0, 2] dX5_status_23 rfl (by decide) rfl ?_
      refine mv_iinc (k0 := 2) (v := x3 + 1) (lv' := [(0, .ref (mt_adr (kG K) 0)), (2, .int (x2 + (σ 55 (Int32.toNatClampNeg x3)))), (3, .int (x3 + 1))]) [1, 2, 0] dX5_status_24 rfl (mt_inc ic_1) (by decide) rfl ?_
      refine mv_goto 9 dX5_status_27 (by decide) ?_
      exact ih σ (x2 + (σ 55 (Int32.toNatClampNeg x3))) (x3 + 1)
def fX5_status (fu : Nat) (σ : mt_St) (a1 : Int32) : Option (Int32 × mt_St) :=
  if a1 = (-1 : Int32) then
    bX5_status_9 fu fu σ (0 : Int32) (0 : Int32)
  else
    mt_ask (fX5_isWithin fu a1 (6 : Int32)) fun r1 =>
    if r1 = 0 then
      mt_call (fX5_finding fu σ (0 : Int32)) fun r2 s3 =>
      bX5_status_55 fu s3 r2
    else
      mt_chk (mt_in a1 7) <|
      bX5_status_55 fu σ (σ 55 (Int32.toNatClampNeg a1))
set_option maxHeartbeats 4000000 in
set_option maxRecDepth 20000 in
theorem vX5_status {K : mt_C} {fu : Nat} {σ : mt_St} {a1 : Int32} {r : Int32} {σf : mt_St} (hQ : mt_R K (some .int) (some (.int r)) σf) : mt_V K cX5_status RX5 4 2 σ 0 [(0, .ref (mt_adr (kG K) 0)), (1, .int a1)] [] (fX5_status fu σ a1 = some (r, σf)) := by
  unfold fX5_status
  refine mv_iload_n 1 dX5_status_0 rfl rfl ?_
  refine mv_iconst (v := -1) dX5_status_1 ic_m1 ?_
  refine mv_icmp_ne 32 dX5_status_2 (by decide) ?_ ?_
  · refine mv_iload_n 1 dX5_status_32 rfl rfl ?_
    refine mv_bipush (v := 6) dX5_status_33 bp_6 ?_
    refine mv_cSri (As := [.int a1, .int (6 : Int32)]) (st := []) cal_X5_isWithin sta_X5_isWithin ml_X5_67 rfl (by decide) rfl (Nat.le_of_ble_eq_true rfl) dX5_status_35 (fun r h => co_X5_isWithin h) (fun r1 => ?_)
    refine mv_if_eq 50 dX5_status_38 (by decide) ?_ ?_
    · refine mv_aload_n 0 dX5_status_50 rfl rfl ?_
      refine mv_iconst (v := 0) dX5_status_51 ic_0 ?_
      refine mv_cVwi (As := [.int (0 : Int32)]) (st := []) cal_X5_finding ins_X5_finding ml_X5_71 rfl (by decide) rfl rfl (by decide) rfl (Nat.le_of_ble_eq_true rfl) dX5_status_52 (fun r s h => co_X5_finding h) (fun r2 s3 => ?_)
      refine mv_sub (lv' := []) [] rfl ?_
      exact vX5_status_55 hQ s3 r2
    · refine mv_aload_n 0 dX5_status_41 rfl rfl ?_
      refine mg_X5_11 fl_X5_63 dX5_status_42 ?_
      refine mv_iload_n 1 dX5_status_45 rfl rfl ?_
      refine mv_iald 7 rfl rfl dX5_status_46 ?_
      refine mv_goto 55 dX5_status_47 (by decide) ?_
      refine mv_sub (lv' := []) [] rfl ?_
      exact vX5_status_55 hQ σ (σ 55 (Int32.toNatClampNeg a1))
  · refine mv_iconst (v := 0) dX5_status_5 ic_0 ?_
    refine mv_istore_n (lv' := [(0, .ref (mt_adr (kG K) 0)), (2, .int (0 : Int32))]) [1, 0] dX5_status_6 rfl (by decide) rfl ?_
    refine mv_iconst (v := 0) dX5_status_7 ic_0 ?_
    refine mv_istore_n (lv' := [(0, .ref (mt_adr (kG K) 0)), (2, .int (0 : Int32)), (3, .int (0 : Int32))]) [1, 2, 0] dX5_status_8 rfl (by decide) rfl ?_
    exact vX5_status_9 hQ fu σ (0 : Int32) (0 : Int32)
theorem co_X5_status {l : Launch} {G : mt_G} {fu : Nat} {σ : mt_St} {a1 : Int32} {r : Int32} {σf : mt_St}  (h : fX5_status fu σ a1 = some (r, σf)) : mt_Con l G yX5_status cX5_status 4 (some .int) 2 [.ref (mt_adr G 0), .int a1] σ (some (.int r)) σf :=
  mt_con (by decide) (Nat.le_of_ble_eq_true rfl) (fun K hl hG hQ => by subst hl; subst hG; exact fun _ => vX5_status  hQ h)
