theorem dX3_begin_0 : decode cX3_begin 0 = .ok (.aload_n 0, 1) := by decide +kernel
theorem dX3_begin_1 : decode cX3_begin 1 = .ok (.iload_n 1, 1) := by decide +kernel
theorem dX3_begin_2 : decode cX3_begin 2 = .ok (.putfield 9, 3) := by decide +kernel
theorem dX3_begin_5 : decode cX3_begin 5 = .ok (.aload_n 0, 1) := by decide +kernel
theorem dX3_begin_6 : decode cX3_begin 6 = .ok (.iload_n 2, 1) := by decide +kernel
theorem dX3_begin_7 : decode cX3_begin 7 = .ok (.putfield 15, 3) := by decide +kernel
theorem dX3_begin_10 : decode cX3_begin 10 = .ok (.aload_n 0, 1) := by decide +kernel
theorem dX3_begin_11 : decode cX3_begin 11 = .ok (.iload_n 3, 1) := by decide +kernel
theorem dX3_begin_12 : decode cX3_begin 12 = .ok (.putfield 18, 3) := by decide +kernel
theorem dX3_begin_15 : decode cX3_begin 15 = .ok (.aload_n 0, 1) := by decide +kernel
theorem dX3_begin_16 : decode cX3_begin 16 = .ok (.iload 4, 2) := by decide +kernel
theorem dX3_begin_18 : decode cX3_begin 18 = .ok (.putfield 21, 3) := by decide +kernel
theorem dX3_begin_21 : decode cX3_begin 21 = .ok (.aload_n 0, 1) := by decide +kernel
theorem dX3_begin_22 : decode cX3_begin 22 = .ok (.iconst 1, 1) := by decide +kernel
theorem dX3_begin_23 : decode cX3_begin 23 = .ok (.putfield 24, 3) := by decide +kernel
theorem dX3_begin_26 : decode cX3_begin 26 = .ok (.aload_n 0, 1) := by decide +kernel
theorem dX3_begin_27 : decode cX3_begin 27 = .ok (.iconst 0, 1) := by decide +kernel
theorem dX3_begin_28 : decode cX3_begin 28 = .ok (.putfield 27, 3) := by decide +kernel
theorem dX3_begin_31 : decode cX3_begin 31 = .ok (.aload_n 0, 1) := by decide +kernel
theorem dX3_begin_32 : decode cX3_begin 32 = .ok (.iconst 0, 1) := by decide +kernel
theorem dX3_begin_33 : decode cX3_begin 33 = .ok (.putfield 30, 3) := by decide +kernel
theorem dX3_begin_36 : decode cX3_begin 36 = .ok (.aload_n 0, 1) := by decide +kernel
theorem dX3_begin_37 : decode cX3_begin 37 = .ok (.iconst 0, 1) := by decide +kernel
theorem dX3_begin_38 : decode cX3_begin 38 = .ok (.putfield 33, 3) := by decide +kernel
theorem dX3_begin_41 : decode cX3_begin 41 = .ok (.return_, 1) := by decide +kernel
def fX3_begin (fu : Nat) (σ : mt_St) (c : Nat) (a1 : Int32) (a2 : Int32) (a3 : Int32) (a4 : Int32) : Option (Unit × mt_St) :=
  mt_bnd (mt_up σ c 0 a1) fun s1 =>
  mt_bnd (mt_up s1 c 1 a2) fun s2 =>
  mt_bnd (mt_up s2 c 2 a3) fun s3 =>
  mt_bnd (mt_up s3 c 3 a4) fun s4 =>
  mt_bnd (mt_up s4 c 4 (1 : Int32)) fun s5 =>
  mt_bnd (mt_up s5 c 5 (0 : Int32)) fun s6 =>
  mt_bnd (mt_up s6 c 6 (0 : Int32)) fun s7 =>
  mt_bnd (mt_up s7 c 7 (0 : Int32)) fun s8 =>
  some ((), s8)
set_option maxHeartbeats 4000000 in
set_option maxRecDepth 20000 in
theorem vX3_begin {K : mt_C} {fu : Nat} {σ : mt_St} {c : Nat} {a1 : Int32} {a2 : Int32} {a3 : Int32} {a4 : Int32} {r : Unit} {σf : mt_St} (hc : mt_kd c = 3) (hQ : mt_R K none none σf) : mt_V K cX3_begin RX3 5 0 σ 0 [(0, .ref (mt_adr (kG K) c)), (1, .int a1), (2, .int a2), (3, .int a3), (4, .int a4)] [] (fX3_begin fu σ c a1 a2 a3 a4 = some (r, σf)) := by
  unfold fX3_begin
  refine mv_aload_n 0 dX3_begin_0 rfl rfl ?_
  refine mv_iload_n 1 dX3_begin_1 rfl rfl ?_
  refine mp_X3_0 hc fl_X3_9 dX3_begin_2 (fun s1 => ?_)
  refine mv_aload_n 0 dX3_begin_5 rfl rfl ?_
  refine mv_iload_n 2 dX3_begin_6 rfl rfl ?_
  refine mp_X3_1 hc fl_X3_15 dX3_begin_7 (fun s2 => ?_)
  refine mv_aload_n 0 dX3_begin_10 rfl rfl ?_
  refine mv_iload_n 3 dX3_begin_11 rfl rfl ?_
  refine mp_X3_2 hc fl_X3_18 dX3_begin_12 (fun s3 => ?_)
  refine mv_aload_n 0 dX3_begin_15 rfl rfl ?_
  refine mv_iload 4 dX3_begin_16 rfl ?_
  refine mp_X3_3 hc fl_X3_21 dX3_begin_18 (fun s4 => ?_)
  refine mv_aload_n 0 dX3_begin_21 rfl rfl ?_
  refine mv_iconst (v := 1) dX3_begin_22 ic_1 ?_
  refine mp_X3_4 hc fl_X3_24 dX3_begin_23 (fun s5 => ?_)
  refine mv_aload_n 0 dX3_begin_26 rfl rfl ?_
  refine mv_iconst (v := 0) dX3_begin_27 ic_0 ?_
  refine mp_X3_5 hc fl_X3_27 dX3_begin_28 (fun s6 => ?_)
  refine mv_aload_n 0 dX3_begin_31 rfl rfl ?_
  refine mv_iconst (v := 0) dX3_begin_32 ic_0 ?_
  refine mp_X3_6 hc fl_X3_30 dX3_begin_33 (fun s7 => ?_)
  refine mv_aload_n 0 dX3_begin_36 rfl rfl ?_
  refine mv_iconst (v := 0) dX3_begin_37 ic_0 ?_
  refine mp_X3_7 hc fl_X3_33 dX3_begin_38 (fun s8 => ?_)
  exact mv_vret hQ dX3_begin_41
theorem co_X3_begin {l : Launch} {G : mt_G} {fu : Nat} {σ : mt_St} {c : Nat} {a1 : Int32} {a2 : Int32} {a3 : Int32} {a4 : Int32} {r : Unit} {σf : mt_St} (hc : mt_kd c = 3) (h : fX3_begin fu σ c a1 a2 a3 a4 = some (r, σf)) : mt_Con l G yX3_begin cX3_begin 5 none 0 [.ref (mt_adr G c), .int a1, .int a2, .int a3, .int a4] σ none σf :=
  mt_con (by decide) (Nat.le_of_ble_eq_true rfl) (fun K hl hG hQ => by subst hl; subst hG; exact fun _ => vX3_begin hc hQ h)
theorem dX5_isWithin_0 : decode cX5_isWithin 0 = .ok (.iload_n 0, 1) := by decide +kernel
theorem dX5_isWithin_1 : decode cX5_isWithin 1 = .ok (.ifCond .lt 12, 3) := by decide +kernel
theorem dX5_isWithin_4 : decode cX5_isWithin 4 = .ok (.iload_n 0, 1) := by decide +kernel
theorem dX5_isWithin_5 : decode cX5_isWithin 5 = .ok (.iload_n 1, 1) := by decide +kernel
theorem dX5_isWithin_6 : decode cX5_isWithin 6 = .ok (.if_icmp .gt 7, 3) := by decide +kernel
theorem dX5_isWithin_9 : decode cX5_isWithin 9 = .ok (.iconst 1, 1) := by decide +kernel
theorem dX5_isWithin_10 : decode cX5_isWithin 10 = .ok (.goto 4, 3) := by decide +kernel
theorem dX5_isWithin_13 : decode cX5_isWithin 13 = .ok (.iconst 0, 1) := by decide +kernel
theorem dX5_isWithin_14 : decode cX5_isWithin 14 = .ok (.ireturn, 1) := by decide +kernel
def bX5_isWithin_14 (fu : Nat) (y0 : Int32) : Option Int32 :=
  mt_chk (mt_b01 y0) (some y0)
set_option maxHeartbeats 4000000 in
set_option maxRecDepth 20000 in
theorem vX5_isWithin_14 {K : mt_C} {fu : Nat} {σ : mt_St} {r : Int32} (hQ : mt_R K (some .boolean) (some (.int r)) σ) : ∀ (y0 : Int32), mt_V K cX5_isWithin RX5 2 0 σ 14 [] [.int y0] (bX5_isWithin_14 fu y0 = some r) := by
  intro y0
  unfold bX5_isWithin_14
  exact mv_zretr hQ dX5_isWithin_14
def bX5_isWithin_13 (fu : Nat) : Option Int32 :=
  bX5_isWithin_14 fu (0 : Int32)
set_option maxHeartbeats 4000000 in
set_option maxRecDepth 20000 in
theorem vX5_isWithin_13 {K : mt_C} {fu : Nat} {σ : mt_St} {r : Int32} (hQ : mt_R K (some .boolean) (some (.int r)) σ) : mt_V K cX5_isWithin RX5 2 0 σ 13 [] [] (bX5_isWithin_13 fu = some r) := by
  unfold bX5_isWithin_13
  refine mv_iconst (v := 0) dX5_isWithin_13 ic_0 ?_
  exact vX5_isWithin_14 hQ (0 : Int32)
def fX5_isWithin (fu : Nat) (a1 : Int32) (a2 : Int32) : Option Int32 :=
  if a1 < 0 then
    bX5_isWithin_13 fu
  else
    if a2 < a1 then
      bX5_isWithin_13 fu
    else
      bX5_isWithin_14 fu (1 : Int32)
set_option maxHeartbeats 4000000 in
set_option maxRecDepth 20000 in
theorem vX5_isWithin {K : mt_C} {fu : Nat} {σ : mt_St} {a1 : Int32} {a2 : Int32} {r : Int32} (hQ : mt_R K (some .boolean) (some (.int r)) σ) : mt_V K cX5_isWithin RX5 2 0 σ 0 [(0, .int a1), (1, .int a2)] [] (fX5_isWithin fu a1 a2 = some r) := by
  unfold fX5_isWithin
  refine mv_iload_n 0 dX5_isWithin_0 rfl rfl ?_
  refine mv_if_lt 13 dX5_isWithin_1 (by decide) ?_ ?_
  · refine mv_sub (lv' := []) [] rfl ?_
    exact vX5_isWithin_13 hQ
  · refine mv_iload_n 0 dX5_isWithin_4 rfl rfl ?_
    refine mv_iload_n 1 dX5_isWithin_5 rfl rfl ?_
    refine mv_icmp_gt 13 dX5_isWithin_6 (by decide) ?_ ?_
    · refine mv_sub (lv' := []) [] rfl ?_
      exact vX5_isWithin_13 hQ
    · refine mv_iconst (v := 1) dX5_isWithin_9 ic_1 ?_
      refine mv_goto 14 dX5_isWithin_10 (by decide) ?_
      refine mv_sub (lv' := []) [] rfl ?_
      exact vX5_isWithin_14 hQ (1 : Int32)
theorem co_X5_isWithin {l : Launch} {G : mt_G} {fu : Nat} {σ : mt_St} {a1 : Int32} {a2 : Int32} {r : Int32}  (h : fX5_isWithin fu a1 a2 = some r) : mt_Con l G yX5_isWithin cX5_isWithin 2 (some .boolean) 0 [.int a1, .int a2] σ (some (.int r)) σ :=
  mt_con (by decide) (Nat.le_of_ble_eq_true rfl) (fun K hl hG hQ => by subst hl; subst hG; exact fun _ => vX5_isWithin  hQ h)
theorem dX3_bears_0 : decode cX3_bears 0 = .ok (.aload_n 0, 1) := by decide +kernel
theorem dX3_bears_1 : decode cX3_bears 1 = .ok (.getfield 27, 3) := by decide +kernel
theorem dX3_bears_4 : decode cX3_bears 4 = .ok (.bipush 10, 2) := by decide +kernel
theorem dX3_bears_6 : decode cX3_bears 6 = .ok (.if_icmp .lt 7, 3) := by decide +kernel
theorem dX3_bears_9 : decode cX3_bears 9 = .ok (.iconst 1, 1) := by decide +kernel
theorem dX3_bears_10 : decode cX3_bears 10 = .ok (.goto 4, 3) := by decide +kernel
theorem dX3_bears_13 : decode cX3_bears 13 = .ok (.iconst 0, 1) := by decide +kernel
theorem dX3_bears_14 : decode cX3_bears 14 = .ok (.istore_n 2, 1) := by decide +kernel
theorem dX3_bears_15 : decode cX3_bears 15 = .ok (.aload_n 0, 1) := by decide +kernel
theorem dX3_bears_16 : decode cX3_bears 16 = .ok (.getfield 9, 3) := by decide +kernel
theorem dX3_bears_19 : decode cX3_bears 19 = .ok (.tableswitch 69 1 6 #[37, 43, 45, 47, 66, 39], 37) := by decide +kernel
theorem dX3_bears_56 : decode cX3_bears 56 = .ok (.iload_n 2, 1) := by decide +kernel
theorem dX3_bears_57 : decode cX3_bears 57 = .ok (.ireturn, 1) := by decide +kernel
theorem dX3_bears_58 : decode cX3_bears 58 = .ok (.iload_n 2, 1) := by decide +kernel
theorem dX3_bears_59 : decode cX3_bears 59 = .ok (.iconst 2, 1) := by decide +kernel
theorem dX3_bears_60 : decode cX3_bears 60 = .ok (.iadd, 1) := by decide +kernel
theorem dX3_bears_61 : decode cX3_bears 61 = .ok (.ireturn, 1) := by decide +kernel
theorem dX3_bears_62 : decode cX3_bears 62 = .ok (.iconst 1, 1) := by decide +kernel
theorem dX3_bears_63 : decode cX3_bears 63 = .ok (.ireturn, 1) := by decide +kernel
theorem dX3_bears_64 : decode cX3_bears 64 = .ok (.iconst 2, 1) := by decide +kernel
theorem dX3_bears_65 : decode cX3_bears 65 = .ok (.ireturn, 1) := by decide +kernel
theorem dX3_bears_66 : decode cX3_bears 66 = .ok (.aload_n 0, 1) := by decide +kernel
theorem dX3_bears_67 : decode cX3_bears 67 = .ok (.getfield 21, 3) := by decide +kernel
theorem dX3_bears_70 : decode cX3_bears 70 = .ok (.iload_n 1, 1) := by decide +kernel
theorem dX3_bears_71 : decode cX3_bears 71 = .ok (.iand, 1) := by decide +kernel
theorem dX3_bears_72 : decode cX3_bears 72 = .ok (.sipush 2048, 3) := by decide +kernel
theorem dX3_bears_75 : decode cX3_bears 75 = .ok (.iand, 1) := by decide +kernel
theorem dX3_bears_76 : decode cX3_bears 76 = .ok (.ifCond .eq 7, 3) := by decide +kernel
theorem dX3_bears_79 : decode cX3_bears 79 = .ok (.iconst 0, 1) := by decide +kernel
theorem dX3_bears_80 : decode cX3_bears 80 = .ok (.goto 4, 3) := by decide +kernel
theorem dX3_bears_83 : decode cX3_bears 83 = .ok (.iconst 2, 1) := by decide +kernel
theorem dX3_bears_84 : decode cX3_bears 84 = .ok (.ireturn, 1) := by decide +kernel
theorem dX3_bears_85 : decode cX3_bears 85 = .ok (.bipush 12, 2) := by decide +kernel
theorem dX3_bears_87 : decode cX3_bears 87 = .ok (.ireturn, 1) := by decide +kernel
theorem dX3_bears_88 : decode cX3_bears 88 = .ok (.iconst 0, 1) := by decide +kernel
theorem dX3_bears_89 : decode cX3_bears 89 = .ok (.ireturn, 1) := by decide +kernel
def bX3_bears_84 (fu : Nat) (c : Nat) (σ : mt_St) (y0 : Int32) : Option Int32 :=
  some y0
set_option maxHeartbeats 4000000 in
set_option maxRecDepth 20000 in
theorem vX3_bears_84 {K : mt_C} {fu : Nat} {c : Nat} {σ : mt_St} {r : Int32} (hc : mt_kd c = 3) (hQ : mt_R K (some .int) (some (.int r)) σ) : ∀ (y0 : Int32), mt_V K cX3_bears RX3 3 0 σ 84 [] [.int y0] (bX3_bears_84 fu c σ y0 = some r) := by
  intro y0
  unfold bX3_bears_84
  exact mv_iretr hQ dX3_bears_84
def bX3_bears_14 (fu : Nat) (c : Nat) (σ : mt_St) (x1 : Int32) (y0 : Int32) : Option Int32 :=
  if (σ c 0) = 1 then
    some y0
  else
  if (σ c 0) = 2 then
    some (1 : Int32)
  else
  if (σ c 0) = 3 then
    some (2 : Int32)
  else
  if (σ c 0) = 4 then
    if (((σ c 3) &&& x1) &&& (2048 : Int32)) = 0 then
      bX3_bears_84 fu c σ (2 : Int32)
    else
      bX3_bears_84 fu c σ (0 : Int32)
  else
  if (σ c 0) = 5 then
    some (12 : Int32)
  else
  if (σ c 0) = 6 then
    some (y0 + (2 : Int32))
  else
  some (0 : Int32)
set_option maxHeartbeats 4000000 in
set_option maxRecDepth 20000 in
theorem vX3_bears_14 {K : mt_C} {fu : Nat} {c : Nat} {σ : mt_St} {r : Int32} (hc : mt_kd c = 3) (hQ : mt_R K (some .int) (some (.int r)) σ) : ∀ (x1 : Int32) (y0 : Int32), mt_V K cX3_bears RX3 3 0 σ 14 [(0, .ref (mt_adr (kG K) c)), (1, .int x1)] [.int y0] (bX3_bears_14 fu c σ x1 y0 = some r) := by
  intro x1 y0
  unfold bX3_bears_14
  refine mv_istore_n (lv' := [(0, .ref (mt_adr (kG K) c)), (1, .int x1), (2, .int y0)]) [1, 2, 0] dX3_bears_14 rfl (by decide) rfl ?_
  refine mv_aload_n 0 dX3_bears_15 rfl rfl ?_
  refine mg_X3_0 hc fl_X3_9 dX3_bears_16 ?_
  refine mv_case (fun e1 => ?_) (fun n1 => ?_)
  · refine mv_tsin 1 56 e1 dX3_bears_19 (by decide) (by decide) rfl (by decide) ?_
    refine mv_iload_n 2 dX3_bears_56 rfl rfl ?_
    exact mv_iretr hQ dX3_bears_57
  refine mv_case (fun e2 => ?_) (fun n2 => ?_)
  · refine mv_tsin 2 62 e2 dX3_bears_19 (by decide) (by decide) rfl (by decide) ?_
    refine mv_iconst (v := 1) dX3_bears_62 ic_1 ?_
    exact mv_iretr hQ dX3_bears_63
  refine mv_case (fun e3 => ?_) (fun n3 => ?_)
  · refine mv_tsin 3 64 e3 dX3_bears_19 (by decide) (by decide) rfl (by decide) ?_
    refine mv_iconst (v := 2) dX3_bears_64 ic_2 ?_
    exact mv_iretr hQ dX3_bears_65
  refine mv_case (fun e4 => ?_) (fun n4 => ?_)
  · refine mv_tsin 4 66 e4 dX3_bears_19 (by decide) (by decide) rfl (by decide) ?_
    refine mv_aload_n 0 dX3_bears_66 rfl rfl ?_
    refine mg_X3_3 hc fl_X3_21 dX3_bears_67 ?_
    refine mv_iload_n 1 dX3_bears_70 rfl rfl ?_
    refine mv_iand dX3_bears_71 ?_
    refine mv_sipush (v := 2048) dX3_bears_72 sp_2048 ?_
    refine mv_iand dX3_bears_75 ?_
    refine mv_if_eq 83 dX3_bears_76 (by decide) ?_ ?_
    · refine mv_iconst (v := 2) dX3_bears_83 ic_2 ?_
      refine mv_sub (lv' := []) [] rfl ?_
      exact vX3_bears_84 hc hQ (2 : Int32)
    · refine mv_iconst (v := 0) dX3_bears_79 ic_0 ?_
      refine mv_goto 84 dX3_bears_80 (by decide) ?_
      refine mv_sub (lv' := []) [] rfl ?_
      exact vX3_bears_84 hc hQ (0 : Int32)
  refine mv_case (fun e5 => ?_) (fun n5 => ?_)
  · refine mv_tsin 5 85 e5 dX3_bears_19 (by decide) (by decide) rfl (by decide) ?_
    refine mv_bipush (v := 12) dX3_bears_85 bp_12 ?_
    exact mv_iretr hQ dX3_bears_87
  refine mv_case (fun e6 => ?_) (fun n6 => ?_)
  · refine mv_tsin 6 58 e6 dX3_bears_19 (by decide) (by decide) rfl (by decide) ?_
    refine mv_iload_n 2 dX3_bears_58 rfl rfl ?_
    refine mv_iconst (v := 2) dX3_bears_59 ic_2 ?_
    refine mv_iadd dX3_bears_60 ?_
    exact mv_iretr hQ dX3_bears_61
  refine mv_tsout 88 (by have z1 := mt_ne (z := 1) n1 (by decide); have z2 := mt_ne (z := 2) n2 (by decide); have z3 := mt_ne (z := 3) n3 (by decide); have z4 := mt_ne (z := 4) n4 (by decide); have z5 := mt_ne (z := 5) n5 (by decide); have z6 := mt_ne (z := 6) n6 (by decide); omega) dX3_bears_19 (by decide) ?_
  refine mv_iconst (v := 0) dX3_bears_88 ic_0 ?_
  exact mv_iretr hQ dX3_bears_89
def fX3_bears (fu : Nat) (σ : mt_St) (c : Nat) (a1 : Int32) : Option Int32 :=
  if (σ c 5) < (10 : Int32) then
    bX3_bears_14 fu c σ a1 (0 : Int32)
  else
    bX3_bears_14 fu c σ a1 (1 : Int32)
set_option maxHeartbeats 4000000 in
set_option maxRecDepth 20000 in
theorem vX3_bears {K : mt_C} {fu : Nat} {σ : mt_St} {c : Nat} {a1 : Int32} {r : Int32} (hc : mt_kd c = 3) (hQ : mt_R K (some .int) (some (.int r)) σ) : mt_V K cX3_bears RX3 3 0 σ 0 [(0, .ref (mt_adr (kG K) c)), (1, .int a1)] [] (fX3_bears fu σ c a1 = some r) := by
  unfold fX3_bears
  refine mv_aload_n 0 dX3_bears_0 rfl rfl ?_
  refine mg_X3_5 hc fl_X3_27 dX3_bears_1 ?_
  refine mv_bipush (v := 10) dX3_bears_4 bp_10 ?_
  refine mv_icmp_lt 13 dX3_bears_6 (by decide) ?_ ?_
  · refine mv_iconst (v := 0) dX3_bears_13 ic_0 ?_
    exact vX3_bears_14 hc hQ a1 (0 : Int32)
  · refine mv_iconst (v := 1) dX3_bears_9 ic_1 ?_
    refine mv_goto 14 dX3_bears_10 (by decide) ?_
    exact vX3_bears_14 hc hQ a1 (1 : Int32)
theorem co_X3_bears {l : Launch} {G : mt_G} {fu : Nat} {σ : mt_St} {c : Nat} {a1 : Int32} {r : Int32} (hc : mt_kd c = 3) (h : fX3_bears fu σ c a1 = some r) : mt_Con l G yX3_bears cX3_bears 3 (some .int) 0 [.ref (mt_adr G c), .int a1] σ (some (.int r)) σ :=
  mt_con (by decide) (Nat.le_of_ble_eq_true rfl) (fun K hl hG hQ => by subst hl; subst hG; exact fun _ => vX3_bears hc hQ h)
theorem dX3_become_0 : decode cX3_become 0 = .ok (.aload_n 0, 1) := by decide +kernel
theorem dX3_become_1 : decode cX3_become 1 = .ok (.aload_n 1, 1) := by decide +kernel
theorem dX3_become_2 : decode cX3_become 2 = .ok (.getfield 9, 3) := by decide +kernel
theorem dX3_become_5 : decode cX3_become 5 = .ok (.putfield 9, 3) := by decide +kernel
theorem dX3_become_8 : decode cX3_become 8 = .ok (.aload_n 0, 1) := by decide +kernel
theorem dX3_become_9 : decode cX3_become 9 = .ok (.aload_n 1, 1) := by decide +kernel
theorem dX3_become_10 : decode cX3_become 10 = .ok (.getfield 15, 3) := by decide +kernel
theorem dX3_become_13 : decode cX3_become 13 = .ok (.putfield 15, 3) := by decide +kernel
theorem dX3_become_16 : decode cX3_become 16 = .ok (.aload_n 0, 1) := by decide +kernel
theorem dX3_become_17 : decode cX3_become 17 = .ok (.aload_n 1, 1) := by decide +kernel
theorem dX3_become_18 : decode cX3_become 18 = .ok (.getfield 18, 3) := by decide +kernel
theorem dX3_become_21 : decode cX3_become 21 = .ok (.putfield 18, 3) := by decide +kernel
theorem dX3_become_24 : decode cX3_become 24 = .ok (.aload_n 0, 1) := by decide +kernel
theorem dX3_become_25 : decode cX3_become 25 = .ok (.aload_n 1, 1) := by decide +kernel
theorem dX3_become_26 : decode cX3_become 26 = .ok (.getfield 21, 3) := by decide +kernel
theorem dX3_become_29 : decode cX3_become 29 = .ok (.putfield 21, 3) := by decide +kernel
theorem dX3_become_32 : decode cX3_become 32 = .ok (.aload_n 0, 1) := by decide +kernel
theorem dX3_become_33 : decode cX3_become 33 = .ok (.aload_n 1, 1) := by decide +kernel
theorem dX3_become_34 : decode cX3_become 34 = .ok (.getfield 24, 3) := by decide +kernel
theorem dX3_become_37 : decode cX3_become 37 = .ok (.putfield 24, 3) := by decide +kernel
theorem dX3_become_40 : decode cX3_become 40 = .ok (.aload_n 0, 1) := by decide +kernel
theorem dX3_become_41 : decode cX3_become 41 = .ok (.aload_n 1, 1) := by decide +kernel
theorem dX3_become_42 : decode cX3_become 42 = .ok (.getfield 27, 3) := by decide +kernel
theorem dX3_become_45 : decode cX3_become 45 = .ok (.putfield 27, 3) := by decide +kernel
theorem dX3_become_48 : decode cX3_become 48 = .ok (.aload_n 0, 1) := by decide +kernel
theorem dX3_become_49 : decode cX3_become 49 = .ok (.aload_n 1, 1) := by decide +kernel
theorem dX3_become_50 : decode cX3_become 50 = .ok (.getfield 30, 3) := by decide +kernel
theorem dX3_become_53 : decode cX3_become 53 = .ok (.putfield 30, 3) := by decide +kernel
theorem dX3_become_56 : decode cX3_become 56 = .ok (.aload_n 0, 1) := by decide +kernel
theorem dX3_become_57 : decode cX3_become 57 = .ok (.aload_n 1, 1) := by decide +kernel
theorem dX3_become_58 : decode cX3_become 58 = .ok (.getfield 33, 3) := by decide +kernel
theorem dX3_become_61 : decode cX3_become 61 = .ok (.putfield 33, 3) := by decide +kernel
theorem dX3_become_64 : decode cX3_become 64 = .ok (.return_, 1) := by decide +kernel
def fX3_become (fu : Nat) (σ : mt_St) (c : Nat) (a1 : Nat) : Option (Unit × mt_St) :=
  mt_bnd (mt_up σ c 0 (σ a1 0)) fun s1 =>
  mt_bnd (mt_up s1 c 1 (s1 a1 1)) fun s2 =>
  mt_bnd (mt_up s2 c 2 (s2 a1 2)) fun s3 =>
  mt_bnd (mt_up s3 c 3 (s3 a1 3)) fun s4 =>
  mt_bnd (mt_up s4 c 4 (s4 a1 4)) fun s5 =>
  mt_bnd (mt_up s5 c 5 (s5 a1 5)) fun s6 =>
  mt_bnd (mt_up s6 c 6 (s6 a1 6)) fun s7 =>
  mt_bnd (mt_up s7 c 7 (s7 a1 7)) fun s8 =>
  some ((), s8)
set_option maxHeartbeats 4000000 in
set_option maxRecDepth 20000 in
theorem vX3_become {K : mt_C} {fu : Nat} {σ : mt_St} {c : Nat} {a1 : Nat} {r : Unit} {σf : mt_St} (hc : mt_kd c = 3) (ha1 : mt_kd a1 = 3) (hQ : mt_R K none none σf) : mt_V K cX3_become RX3 2 0 σ 0 [(0, .ref (mt_adr (kG K) c)), (1, .ref (mt_adr (kG K) a1))] [] (fX3_become fu σ c a1 = some (r, σf)) := by
  unfold fX3_become
  refine mv_aload_n 0 dX3_become_0 rfl rfl ?_
  refine mv_aload_n 1 dX3_become_1 rfl rfl ?_
  refine mg_X3_0 ha1 fl_X3_9 dX3_become_2 ?_
  refine mp_X3_0 hc fl_X3_9 dX3_become_5 (fun s1 => ?_)
  refine mv_aload_n 0 dX3_become_8 rfl rfl ?_
  refine mv_aload_n 1 dX3_become_9 rfl rfl ?_
  refine mg_X3_1 ha1 fl_X3_15 dX3_become_10 ?_
  refine mp_X3_1 hc fl_X3_15 dX3_become_13 (fun s2 => ?_)
  refine mv_aload_n 0 dX3_become_16 rfl rfl ?_
  refine mv_aload_n 1 dX3_become_17 rfl rfl ?_
  refine mg_X3_2 ha1 fl_X3_18 dX3_become_18 ?_
  refine mp_X3_2 hc fl_X3_18 dX3_become_21 (fun s3 => ?_)
  refine mv_aload_n 0 dX3_become_24 rfl rfl ?_
  refine mv_aload_n 1 dX3_become_25 rfl rfl ?_
  refine mg_X3_3 ha1 fl_X3_21 dX3_become_26 ?_
  refine mp_X3_3 hc fl_X3_21 dX3_become_29 (fun s4 => ?_)
  refine mv_aload_n 0 dX3_become_32 rfl rfl ?_
  refine mv_aload_n 1 dX3_become_33 rfl rfl ?_
  refine mg_X3_4 ha1 fl_X3_24 dX3_become_34 ?_
  refine mp_X3_4 hc fl_X3_24 dX3_become_37 (fun s5 => ?_)
  refine mv_aload_n 0 dX3_become_40 rfl rfl ?_
  refine mv_aload_n 1 dX3_become_41 rfl rfl ?_
  refine mg_X3_5 ha1 fl_X3_27 dX3_become_42 ?_
  refine mp_X3_5 hc fl_X3_27 dX3_become_45 (fun s6 => ?_)
  refine mv_aload_n 0 dX3_become_48 rfl rfl ?_
  refine mv_aload_n 1 dX3_become_49 rfl rfl ?_
  refine mg_X3_6 ha1 fl_X3_30 dX3_become_50 ?_
  refine mp_X3_6 hc fl_X3_30 dX3_become_53 (fun s7 => ?_)
  refine mv_aload_n 0 dX3_become_56 rfl rfl ?_
  refine mv_aload_n 1 dX3_become_57 rfl rfl ?_
  refine mg_X3_7 ha1 fl_X3_33 dX3_become_58 ?_
  refine mp_X3_7 hc fl_X3_33 dX3_become_61 (fun s8 => ?_)
  exact mv_vret hQ dX3_become_64
theorem co_X3_become {l : Launch} {G : mt_G} {fu : Nat} {σ : mt_St} {c : Nat} {a1 : Nat} {r : Unit} {σf : mt_St} (hc : mt_kd c = 3) (ha1 : mt_kd a1 = 3) (h : fX3_become fu σ c a1 = some (r, σf)) : mt_Con l G yX3_become cX3_become 2 none 0 [.ref (mt_adr G c), .ref (mt_adr G a1)] σ none σf :=
  mt_con (by decide) (Nat.le_of_ble_eq_true rfl) (fun K hl hG hQ => by subst hl; subst hG; exact fun _ => vX3_become hc ha1 hQ h)
theorem dX3_fades_0 : decode cX3_fades 0 = .ok (.aload_n 0, 1) := by decide +kernel
theorem dX3_fades_1 : decode cX3_fades 1 = .ok (.getfield 9, 3) := by decide +kernel
theorem dX3_fades_4 : decode cX3_fades 4 = .ok (.tableswitch 55 1 6 #[40, 45, 48, 51, 53, 43], 40) := by decide +kernel
theorem dX3_fades_44 : decode cX3_fades 44 = .ok (.bipush 40, 2) := by decide +kernel
theorem dX3_fades_46 : decode cX3_fades 46 = .ok (.ireturn, 1) := by decide +kernel
theorem dX3_fades_47 : decode cX3_fades 47 = .ok (.iconst 3, 1) := by decide +kernel
theorem dX3_fades_48 : decode cX3_fades 48 = .ok (.ireturn, 1) := by decide +kernel
theorem dX3_fades_49 : decode cX3_fades 49 = .ok (.bipush 15, 2) := by decide +kernel
theorem dX3_fades_51 : decode cX3_fades 51 = .ok (.ireturn, 1) := by decide +kernel
theorem dX3_fades_52 : decode cX3_fades 52 = .ok (.bipush 15, 2) := by decide +kernel
theorem dX3_fades_54 : decode cX3_fades 54 = .ok (.ireturn, 1) := by decide +kernel
theorem dX3_fades_55 : decode cX3_fades 55 = .ok (.iconst 0, 1) := by decide +kernel
theorem dX3_fades_56 : decode cX3_fades 56 = .ok (.ireturn, 1) := by decide +kernel
theorem dX3_fades_57 : decode cX3_fades 57 = .ok (.iconst 1, 1) := by decide +kernel
theorem dX3_fades_58 : decode cX3_fades 58 = .ok (.ireturn, 1) := by decide +kernel
theorem dX3_fades_59 : decode cX3_fades 59 = .ok (.bipush 20, 2) := by decide +kernel
theorem dX3_fades_61 : decode cX3_fades 61 = .ok (.ireturn, 1) := by decide +kernel
def fX3_fades (fu : Nat) (σ : mt_St) (c : Nat) : Option Int32 :=
  if (σ c 0) = 1 then
    some (40 : Int32)
  else
  if (σ c 0) = 2 then
    some (15 : Int32)
  else
  if (σ c 0) = 3 then
    some (15 : Int32)
  else
  if (σ c 0) = 4 then
    some (0 : Int32)
  else
  if (σ c 0) = 5 then
    some (1 : Int32)
  else
  if (σ c 0) = 6 then
    some (3 : Int32)
  else
  some (20 : Int32)
set_option maxHeartbeats 4000000 in
set_option maxRecDepth 20000 in
theorem vX3_fades {K : mt_C} {fu : Nat} {σ : mt_St} {c : Nat} {r : Int32} (hc : mt_kd c = 3) (hQ : mt_R K (some .int) (some (.int r)) σ) : mt_V K cX3_fades RX3 1 0 σ 0 [(0, .ref (mt_adr (kG K) c))] [] (fX3_fades fu σ c = some r) := by
  unfold fX3_fades
  refine mv_aload_n 0 dX3_fades_0 rfl rfl ?_
  refine mg_X3_0 hc fl_X3_9 dX3_fades_1 ?_
  refine mv_case (fun e1 => ?_) (fun n1 => ?_)
  · refine mv_tsin 1 44 e1 dX3_fades_4 (by decide) (by decide) rfl (by decide) ?_
    refine mv_bipush (v := 40) dX3_fades_44 bp_40 ?_
    exact mv_iretr hQ dX3_fades_46
  refine mv_case (fun e2 => ?_) (fun n2 => ?_)
  · refine mv_tsin 2 49 e2 dX3_fades_4 (by decide) (by decide) rfl (by decide) ?_
    refine mv_bipush (v := 15) dX3_fades_49 bp_15 ?_
    exact mv_iretr hQ dX3_fades_51
  refine mv_case (fun e3 => ?_) (fun n3 => ?_)
  · refine mv_tsin 3 52 e3 dX3_fades_4 (by decide) (by decide) rfl (by decide) ?_
    refine mv_bipush (v := 15) dX3_fades_52 bp_15 ?_
    exact mv_iretr hQ dX3_fades_54
  refine mv_case (fun e4 => ?_) (fun n4 => ?_)
  · refine mv_tsin 4 55 e4 dX3_fades_4 (by decide) (by decide) rfl (by decide) ?_
    refine mv_iconst (v := 0) dX3_fades_55 ic_0 ?_
    exact mv_iretr hQ dX3_fades_56
  refine mv_case (fun e5 => ?_) (fun n5 => ?_)
  · refine mv_tsin 5 57 e5 dX3_fades_4 (by decide) (by decide) rfl (by decide) ?_
    refine mv_iconst (v := 1) dX3_fades_57 ic_1 ?_
    exact mv_iretr hQ dX3_fades_58
  refine mv_case (fun e6 => ?_) (fun n6 => ?_)
  · refine mv_tsin 6 47 e6 dX3_fades_4 (by decide) (by decide) rfl (by decide) ?_
    refine mv_iconst (v := 3) dX3_fades_47 ic_3 ?_
    exact mv_iretr hQ dX3_fades_48
  refine mv_tsout 59 (by have z1 := mt_ne (z := 1) n1 (by decide); have z2 := mt_ne (z := 2) n2 (by decide); have z3 := mt_ne (z := 3) n3 (by decide); have z4 := mt_ne (z := 4) n4 (by decide); have z5 := mt_ne (z := 5) n5 (by decide); have z6 := mt_ne (z := 6) n6 (by decide); omega) dX3_fades_4 (by decide) ?_
  refine mv_bipush (v := 20) dX3_fades_59 bp_20 ?_
  exact mv_iretr hQ dX3_fades_61
theorem co_X3_fades {l : Launch} {G : mt_G} {fu : Nat} {σ : mt_St} {c : Nat} {r : Int32} (hc : mt_kd c = 3) (h : fX3_fades fu σ c = some r) : mt_Con l G yX3_fades cX3_fades 1 (some .int) 0 [.ref (mt_adr G c)] σ (some (.int r)) σ :=
  mt_con (by decide) (Nat.le_of_ble_eq_true rfl) (fun K hl hG hQ => by subst hl; subst hG; exact fun _ => vX3_fades hc hQ h)
theorem dX3_yields_0 : decode cX3_yields 0 = .ok (.aload_n 0, 1) := by decide +kernel
theorem dX3_yields_1 : decode cX3_yields 1 = .ok (.getfield 9, 3) := by decide +kernel
theorem dX3_yields_4 : decode cX3_yields 4 = .ok (.tableswitch 89 1 6 #[40, 55, 65, 75, 87, 53], 40) := by decide +kernel
theorem dX3_yields_44 : decode cX3_yields 44 = .ok (.aload_n 0, 1) := by decide +kernel
theorem dX3_yields_45 : decode cX3_yields 45 = .ok (.getfield 21, 3) := by decide +kernel
theorem dX3_yields_48 : decode cX3_yields 48 = .ok (.ifCond .ne 7, 3) := by decide +kernel
theorem dX3_yields_51 : decode cX3_yields 51 = .ok (.iconst 2, 1) := by decide +kernel
theorem dX3_yields_52 : decode cX3_yields 52 = .ok (.goto 4, 3) := by decide +kernel
theorem dX3_yields_55 : decode cX3_yields 55 = .ok (.iconst 1, 1) := by decide +kernel
theorem dX3_yields_56 : decode cX3_yields 56 = .ok (.ireturn, 1) := by decide +kernel
theorem dX3_yields_57 : decode cX3_yields 57 = .ok (.iconst 0, 1) := by decide +kernel
theorem dX3_yields_58 : decode cX3_yields 58 = .ok (.ireturn, 1) := by decide +kernel
theorem dX3_yields_59 : decode cX3_yields 59 = .ok (.iconst 1, 1) := by decide +kernel
theorem dX3_yields_60 : decode cX3_yields 60 = .ok (.aload_n 0, 1) := by decide +kernel
theorem dX3_yields_61 : decode cX3_yields 61 = .ok (.getfield 21, 3) := by decide +kernel
theorem dX3_yields_64 : decode cX3_yields 64 = .ok (.invokestatic 50, 3) := by decide +kernel
theorem dX3_yields_67 : decode cX3_yields 67 = .ok (.iadd, 1) := by decide +kernel
theorem dX3_yields_68 : decode cX3_yields 68 = .ok (.ireturn, 1) := by decide +kernel
theorem dX3_yields_69 : decode cX3_yields 69 = .ok (.iconst 3, 1) := by decide +kernel
theorem dX3_yields_70 : decode cX3_yields 70 = .ok (.aload_n 0, 1) := by decide +kernel
theorem dX3_yields_71 : decode cX3_yields 71 = .ok (.getfield 21, 3) := by decide +kernel
theorem dX3_yields_74 : decode cX3_yields 74 = .ok (.invokestatic 50, 3) := by decide +kernel
theorem dX3_yields_77 : decode cX3_yields 77 = .ok (.iadd, 1) := by decide +kernel
theorem dX3_yields_78 : decode cX3_yields 78 = .ok (.ireturn, 1) := by decide +kernel
theorem dX3_yields_79 : decode cX3_yields 79 = .ok (.iconst 2, 1) := by decide +kernel
theorem dX3_yields_80 : decode cX3_yields 80 = .ok (.iconst 3, 1) := by decide +kernel
theorem dX3_yields_81 : decode cX3_yields 81 = .ok (.aload_n 0, 1) := by decide +kernel
theorem dX3_yields_82 : decode cX3_yields 82 = .ok (.getfield 21, 3) := by decide +kernel
theorem dX3_yields_85 : decode cX3_yields 85 = .ok (.invokestatic 50, 3) := by decide +kernel
theorem dX3_yields_88 : decode cX3_yields 88 = .ok (.iadd, 1) := by decide +kernel
theorem dX3_yields_89 : decode cX3_yields 89 = .ok (.imul, 1) := by decide +kernel
theorem dX3_yields_90 : decode cX3_yields 90 = .ok (.ireturn, 1) := by decide +kernel
theorem dX3_yields_91 : decode cX3_yields 91 = .ok (.iconst 0, 1) := by decide +kernel
theorem dX3_yields_92 : decode cX3_yields 92 = .ok (.ireturn, 1) := by decide +kernel
theorem dX3_yields_93 : decode cX3_yields 93 = .ok (.iconst 1, 1) := by decide +kernel
theorem dX3_yields_94 : decode cX3_yields 94 = .ok (.ireturn, 1) := by decide +kernel
def bX3_yields_56 (fu : Nat) (c : Nat) (σ : mt_St) (y0 : Int32) : Option Int32 :=
  some y0
set_option maxHeartbeats 4000000 in
set_option maxRecDepth 20000 in
theorem vX3_yields_56 {K : mt_C} {fu : Nat} {c : Nat} {σ : mt_St} {r : Int32} (hc : mt_kd c = 3) (hQ : mt_R K (some .int) (some (.int r)) σ) : ∀ (y0 : Int32), mt_V K cX3_yields RX3 1 1 σ 56 [] [.int y0] (bX3_yields_56 fu c σ y0 = some r) := by
  intro y0
  unfold bX3_yields_56
  exact mv_iretr hQ dX3_yields_56
def fX3_yields (fu : Nat) (σ : mt_St) (c : Nat) : Option Int32 :=
  if (σ c 0) = 1 then
    if (σ c 3) = 0 then
      bX3_yields_56 fu c σ (2 : Int32)
    else
      bX3_yields_56 fu c σ (1 : Int32)
  else
  if (σ c 0) = 2 then
    mt_ask (fJ6_bitCount_0f7a4 fu (σ c 3)) fun r1 =>
    some ((1 : Int32) + r1)
  else
  if (σ c 0) = 3 then
    mt_ask (fJ6_bitCount_0f7a4 fu (σ c 3)) fun r2 =>
    some ((3 : Int32) + r2)
  else
  if (σ c 0) = 4 then
    mt_ask (fJ6_bitCount_0f7a4 fu (σ c 3)) fun r3 =>
    some ((2 : Int32) * ((3 : Int32) + r3))
  else
  if (σ c 0) = 5 then
    some (0 : Int32)
  else
  if (σ c 0) = 6 then
    some (0 : Int32)
  else
  some (1 : Int32)
set_option maxHeartbeats 4000000 in
set_option maxRecDepth 20000 in
theorem vX3_yields {K : mt_C} {fu : Nat} {σ : mt_St} {c : Nat} {r : Int32} (hc : mt_kd c = 3) (hQ : mt_R K (some .int) (some (.int r)) σ) : mt_V K cX3_yields RX3 1 1 σ 0 [(0, .ref (mt_adr (kG K) c))] [] (fX3_yields fu σ c = some r) := by
  unfold fX3_yields
  refine mv_aload_n 0 dX3_yields_0 rfl rfl ?_
  refine mg_X3_0 hc fl_X3_9 dX3_yields_1 ?_
  refine mv_case (fun e1 => ?_) (fun n1 => ?_)
  · refine mv_tsin 1 44 e1 dX3_yields_4 (by decide) (by decide) rfl (by decide) ?_
    refine mv_aload_n 0 dX3_yields_44 rfl rfl ?_
    refine mg_X3_3 hc fl_X3_21 dX3_yields_45 ?_
    refine mv_if_ne 55 dX3_yields_48 (by decide) ?_ ?_
    · refine mv_iconst (v := 1) dX3_yields_55 ic_1 ?_
      refine mv_sub (lv' := []) [] rfl ?_
      exact vX3_yields_56 hc hQ (1 : Int32)
    · refine mv_iconst (v := 2) dX3_yields_51 ic_2 ?_
      refine mv_goto 56 dX3_yields_52 (by decide) ?_
      refine mv_sub (lv' := []) [] rfl ?_
      exact vX3_yields_56 hc hQ (2 : Int32)
  refine mv_case (fun e2 => ?_) (fun n2 => ?_)
  · refine mv_tsin 2 59 e2 dX3_yields_4 (by decide) (by decide) rfl (by decide) ?_
    refine mv_iconst (v := 1) dX3_yields_59 ic_1 ?_
    refine mv_aload_n 0 dX3_yields_60 rfl rfl ?_
    refine mg_X3_3 hc fl_X3_21 dX3_yields_61 ?_
    refine mv_cSri (As := [.int (σ c 3)]) (st := [.int (1 : Int32)]) cal_J6_bitCount_0f7a4 sta_J6_bitCount_0f7a4 ml_X3_50 rfl (by decide) rfl (Nat.le_of_ble_eq_true rfl) dX3_yields_64 (fun r h => co_J6_bitCount_0f7a4 h) (fun r1 => ?_)
    refine mv_iadd dX3_yields_67 ?_
    exact mv_iretr hQ dX3_yields_68
  refine mv_case (fun e3 => ?_) (fun n3 => ?_)
  · refine mv_tsin 3 69 e3 dX3_yields_4 (by decide) (by decide) rfl (by decide) ?_
    refine mv_iconst (v := 3) dX3_yields_69 ic_3 ?_
    refine mv_aload_n 0 dX3_yields_70 rfl rfl ?_
    refine mg_X3_3 hc fl_X3_21 dX3_yields_71 ?_
    refine mv_cSri (As := [.int (σ c 3)]) (st := [.int (3 : Int32)]) cal_J6_bitCount_0f7a4 sta_J6_bitCount_0f7a4 ml_X3_50 rfl (by decide) rfl (Nat.le_of_ble_eq_true rfl) dX3_yields_74 (fun r h => co_J6_bitCount_0f7a4 h) (fun r2 => ?_)
    refine mv_iadd dX3_yields_77 ?_
    exact mv_iretr hQ dX3_yields_78
  refine mv_case (fun e4 => ?_) (fun n4 => ?_)
  · refine mv_tsin 4 79 e4 dX3_yields_4 (by decide) (by decide) rfl (by decide) ?_
    refine mv_iconst (v := 2) dX3_yields_79 ic_2 ?_
    refine mv_iconst (v := 3) dX3_yields_80 ic_3 ?_
    refine mv_aload_n 0 dX3_yields_81 rfl rfl ?_
    refine mg_X3_3 hc fl_X3_21 dX3_yields_82 ?_
    refine mv_cSri (As := [.int (σ c 3)]) (st := [.int (3 : Int32), .int (2 : Int32)]) cal_J6_bitCount_0f7a4 sta_J6_bitCount_0f7a4 ml_X3_50 rfl (by decide) rfl (Nat.le_of_ble_eq_true rfl) dX3_yields_85 (fun r h => co_J6_bitCount_0f7a4 h) (fun r3 => ?_)
    refine mv_iadd dX3_yields_88 ?_
    refine mv_imul dX3_yields_89 ?_
    exact mv_iretr hQ dX3_yields_90
  refine mv_case (fun e5 => ?_) (fun n5 => ?_)
  · refine mv_tsin 5 91 e5 dX3_yields_4 (by decide) (by decide) rfl (by decide) ?_
    refine mv_iconst (v := 0) dX3_yields_91 ic_0 ?_
    exact mv_iretr hQ dX3_yields_92
  refine mv_case (fun e6 => ?_) (fun n6 => ?_)
  · refine mv_tsin 6 57 e6 dX3_yields_4 (by decide) (by decide) rfl (by decide) ?_
    refine mv_iconst (v := 0) dX3_yields_57 ic_0 ?_
    exact mv_iretr hQ dX3_yields_58
  refine mv_tsout 93 (by have z1 := mt_ne (z := 1) n1 (by decide); have z2 := mt_ne (z := 2) n2 (by decide); have z3 := mt_ne (z := 3) n3 (by decide); have z4 := mt_ne (z := 4) n4 (by decide); have z5 := mt_ne (z := 5) n5 (by decide); have z6 := mt_ne (z := 6) n6 (by decide); omega) dX3_yields_4 (by decide) ?_
  refine mv_iconst (v := 1) dX3_yields_93 ic_1 ?_
  exact mv_iretr hQ dX3_yields_94
theorem co_X3_yields {l : Launch} {G : mt_G} {fu : Nat} {σ : mt_St} {c : Nat} {r : Int32} (hc : mt_kd c = 3) (h : fX3_yields fu σ c = some r) : mt_Con l G yX3_yields cX3_yields 1 (some .int) 1 [.ref (mt_adr G c)] σ (some (.int r)) σ :=
  mt_con (by decide) (Nat.le_of_ble_eq_true rfl) (fun K hl hG hQ => by subst hl; subst hG; exact fun _ => vX3_yields hc hQ h)
theorem dX3_renews_0 : decode cX3_renews 0 = .ok (.aload_n 0, 1) := by decide +kernel
theorem dX3_renews_1 : decode cX3_renews 1 = .ok (.getfield 9, 3) := by decide +kernel
theorem dX3_renews_4 : decode cX3_renews 4 = .ok (.tableswitch 54 1 6 #[40, 45, 47, 49, 51, 43], 40) := by decide +kernel
theorem dX3_renews_44 : decode cX3_renews 44 = .ok (.bipush 10, 2) := by decide +kernel
theorem dX3_renews_46 : decode cX3_renews 46 = .ok (.ireturn, 1) := by decide +kernel
theorem dX3_renews_47 : decode cX3_renews 47 = .ok (.iconst 1, 1) := by decide +kernel
theorem dX3_renews_48 : decode cX3_renews 48 = .ok (.ireturn, 1) := by decide +kernel
theorem dX3_renews_49 : decode cX3_renews 49 = .ok (.iconst 3, 1) := by decide +kernel
theorem dX3_renews_50 : decode cX3_renews 50 = .ok (.ireturn, 1) := by decide +kernel
theorem dX3_renews_51 : decode cX3_renews 51 = .ok (.iconst 3, 1) := by decide +kernel
theorem dX3_renews_52 : decode cX3_renews 52 = .ok (.ireturn, 1) := by decide +kernel
theorem dX3_renews_53 : decode cX3_renews 53 = .ok (.iconst 0, 1) := by decide +kernel
theorem dX3_renews_54 : decode cX3_renews 54 = .ok (.ireturn, 1) := by decide +kernel
theorem dX3_renews_55 : decode cX3_renews 55 = .ok (.bipush 6, 2) := by decide +kernel
theorem dX3_renews_57 : decode cX3_renews 57 = .ok (.ireturn, 1) := by decide +kernel
theorem dX3_renews_58 : decode cX3_renews 58 = .ok (.iconst 5, 1) := by decide +kernel
theorem dX3_renews_59 : decode cX3_renews 59 = .ok (.ireturn, 1) := by decide +kernel
def fX3_renews (fu : Nat) (σ : mt_St) (c : Nat) : Option Int32 :=
  if (σ c 0) = 1 then
    some (10 : Int32)
  else
  if (σ c 0) = 2 then
    some (3 : Int32)
  else
  if (σ c 0) = 3 then
    some (3 : Int32)
  else
  if (σ c 0) = 4 then
    some (0 : Int32)
  else
  if (σ c 0) = 5 then
    some (6 : Int32)
  else
  if (σ c 0) = 6 then
    some (1 : Int32)
  else
  some (5 : Int32)
set_option maxHeartbeats 4000000 in
set_option maxRecDepth 20000 in
theorem vX3_renews {K : mt_C} {fu : Nat} {σ : mt_St} {c : Nat} {r : Int32} (hc : mt_kd c = 3) (hQ : mt_R K (some .int) (some (.int r)) σ) : mt_V K cX3_renews RX3 1 0 σ 0 [(0, .ref (mt_adr (kG K) c))] [] (fX3_renews fu σ c = some r) := by
  unfold fX3_renews
  refine mv_aload_n 0 dX3_renews_0 rfl rfl ?_
  refine mg_X3_0 hc fl_X3_9 dX3_renews_1 ?_
  refine mv_case (fun e1 => ?_) (fun n1 => ?_)
  · refine mv_tsin 1 44 e1 dX3_renews_4 (by decide) (by decide) rfl (by decide) ?_
    refine mv_bipush (v := 10) dX3_renews_44 bp_10 ?_
    exact mv_iretr hQ dX3_renews_46
  refine mv_case (fun e2 => ?_) (fun n2 => ?_)
  · refine mv_tsin 2 49 e2 dX3_renews_4 (by decide) (by decide) rfl (by decide) ?_
    refine mv_iconst (v := 3) dX3_renews_49 ic_3 ?_
    exact mv_iretr hQ dX3_renews_50
  refine mv_case (fun e3 => ?_) (fun n3 => ?_)
  · refine mv_tsin 3 51 e3 dX3_renews_4 (by decide) (by decide) rfl (by decide) ?_
    refine mv_iconst (v := 3) dX3_renews_51 ic_3 ?_
    exact mv_iretr hQ dX3_renews_52
  refine mv_case (fun e4 => ?_) (fun n4 => ?_)
  · refine mv_tsin 4 53 e4 dX3_renews_4 (by decide) (by decide) rfl (by decide) ?_
    refine mv_iconst (v := 0) dX3_renews_53 ic_0 ?_
    exact mv_iretr hQ dX3_renews_54
  refine mv_case (fun e5 => ?_) (fun n5 => ?_)
  · refine mv_tsin 5 55 e5 dX3_renews_4 (by decide) (by decide) rfl (by decide) ?_
    refine mv_bipush (v := 6) dX3_renews_55 bp_6 ?_
    exact mv_iretr hQ dX3_renews_57
  refine mv_case (fun e6 => ?_) (fun n6 => ?_)
  · refine mv_tsin 6 47 e6 dX3_renews_4 (by decide) (by decide) rfl (by decide) ?_
    refine mv_iconst (v := 1) dX3_renews_47 ic_1 ?_
    exact mv_iretr hQ dX3_renews_48
  refine mv_tsout 58 (by have z1 := mt_ne (z := 1) n1 (by decide); have z2 := mt_ne (z := 2) n2 (by decide); have z3 := mt_ne (z := 3) n3 (by decide); have z4 := mt_ne (z := 4) n4 (by decide); have z5 := mt_ne (z := 5) n5 (by decide); have z6 := mt_ne (z := 6) n6 (by decide); omega) dX3_renews_4 (by decide) ?_
  refine mv_iconst (v := 5) dX3_renews_58 ic_5 ?_
  exact mv_iretr hQ dX3_renews_59
theorem co_X3_renews {l : Launch} {G : mt_G} {fu : Nat} {σ : mt_St} {c : Nat} {r : Int32} (hc : mt_kd c = 3) (h : fX3_renews fu σ c = some r) : mt_Con l G yX3_renews cX3_renews 1 (some .int) 0 [.ref (mt_adr G c)] σ (some (.int r)) σ :=
  mt_con (by decide) (Nat.le_of_ble_eq_true rfl) (fun K hl hG hQ => by subst hl; subst hG; exact fun _ => vX3_renews hc hQ h)
theorem dX3_tell_0 : decode cX3_tell 0 = .ok (.iload_n 1, 1) := by decide +kernel
theorem dX3_tell_1 : decode cX3_tell 1 = .ok (.tableswitch 124 0 11 #[63, 68, 73, 78, 83, 88, 93, 98, 103, 109, 114, 119], 63) := by decide +kernel
theorem dX3_tell_64 : decode cX3_tell 64 = .ok (.aload_n 0, 1) := by decide +kernel
theorem dX3_tell_65 : decode cX3_tell 65 = .ok (.getfield 9, 3) := by decide +kernel
theorem dX3_tell_68 : decode cX3_tell 68 = .ok (.ireturn, 1) := by decide +kernel
theorem dX3_tell_69 : decode cX3_tell 69 = .ok (.aload_n 0, 1) := by decide +kernel
theorem dX3_tell_70 : decode cX3_tell 70 = .ok (.getfield 15, 3) := by decide +kernel
theorem dX3_tell_73 : decode cX3_tell 73 = .ok (.ireturn, 1) := by decide +kernel
theorem dX3_tell_74 : decode cX3_tell 74 = .ok (.aload_n 0, 1) := by decide +kernel
theorem dX3_tell_75 : decode cX3_tell 75 = .ok (.getfield 18, 3) := by decide +kernel
theorem dX3_tell_78 : decode cX3_tell 78 = .ok (.ireturn, 1) := by decide +kernel
theorem dX3_tell_79 : decode cX3_tell 79 = .ok (.aload_n 0, 1) := by decide +kernel
theorem dX3_tell_80 : decode cX3_tell 80 = .ok (.getfield 21, 3) := by decide +kernel
theorem dX3_tell_83 : decode cX3_tell 83 = .ok (.ireturn, 1) := by decide +kernel
theorem dX3_tell_84 : decode cX3_tell 84 = .ok (.aload_n 0, 1) := by decide +kernel
theorem dX3_tell_85 : decode cX3_tell 85 = .ok (.getfield 24, 3) := by decide +kernel
theorem dX3_tell_88 : decode cX3_tell 88 = .ok (.ireturn, 1) := by decide +kernel
theorem dX3_tell_89 : decode cX3_tell 89 = .ok (.aload_n 0, 1) := by decide +kernel
theorem dX3_tell_90 : decode cX3_tell 90 = .ok (.getfield 27, 3) := by decide +kernel
theorem dX3_tell_93 : decode cX3_tell 93 = .ok (.ireturn, 1) := by decide +kernel
theorem dX3_tell_94 : decode cX3_tell 94 = .ok (.aload_n 0, 1) := by decide +kernel
theorem dX3_tell_95 : decode cX3_tell 95 = .ok (.getfield 30, 3) := by decide +kernel
theorem dX3_tell_98 : decode cX3_tell 98 = .ok (.ireturn, 1) := by decide +kernel
theorem dX3_tell_99 : decode cX3_tell 99 = .ok (.aload_n 0, 1) := by decide +kernel
theorem dX3_tell_100 : decode cX3_tell 100 = .ok (.getfield 33, 3) := by decide +kernel
theorem dX3_tell_103 : decode cX3_tell 103 = .ok (.ireturn, 1) := by decide +kernel
theorem dX3_tell_104 : decode cX3_tell 104 = .ok (.aload_n 0, 1) := by decide +kernel
theorem dX3_tell_105 : decode cX3_tell 105 = .ok (.iload_n 2, 1) := by decide +kernel
theorem dX3_tell_106 : decode cX3_tell 106 = .ok (.invokevirtual 36, 3) := by decide +kernel
theorem dX3_tell_109 : decode cX3_tell 109 = .ok (.ireturn, 1) := by decide +kernel
theorem dX3_tell_110 : decode cX3_tell 110 = .ok (.aload_n 0, 1) := by decide +kernel
theorem dX3_tell_111 : decode cX3_tell 111 = .ok (.invokevirtual 40, 3) := by decide +kernel
theorem dX3_tell_114 : decode cX3_tell 114 = .ok (.ireturn, 1) := by decide +kernel
theorem dX3_tell_115 : decode cX3_tell 115 = .ok (.aload_n 0, 1) := by decide +kernel
theorem dX3_tell_116 : decode cX3_tell 116 = .ok (.invokevirtual 44, 3) := by decide +kernel
theorem dX3_tell_119 : decode cX3_tell 119 = .ok (.ireturn, 1) := by decide +kernel
theorem dX3_tell_120 : decode cX3_tell 120 = .ok (.aload_n 0, 1) := by decide +kernel
theorem dX3_tell_121 : decode cX3_tell 121 = .ok (.invokevirtual 47, 3) := by decide +kernel
theorem dX3_tell_124 : decode cX3_tell 124 = .ok (.ireturn, 1) := by decide +kernel
theorem dX3_tell_125 : decode cX3_tell 125 = .ok (.aload_n 0, 1) := by decide +kernel
theorem dX3_tell_126 : decode cX3_tell 126 = .ok (.getfield 21, 3) := by decide +kernel
theorem dX3_tell_129 : decode cX3_tell 129 = .ok (.iload_n 2, 1) := by decide +kernel
theorem dX3_tell_130 : decode cX3_tell 130 = .ok (.iand, 1) := by decide +kernel
theorem dX3_tell_131 : decode cX3_tell 131 = .ok (.invokestatic 50, 3) := by decide +kernel
theorem dX3_tell_134 : decode cX3_tell 134 = .ok (.ireturn, 1) := by decide +kernel
def fX3_tell (fu : Nat) (σ : mt_St) (c : Nat) (a1 : Int32) (a2 : Int32) : Option Int32 :=
  if a1 = 0 then
    some (σ c 0)
  else
  if a1 = 1 then
    some (σ c 1)
  else
  if a1 = 2 then
    some (σ c 2)
  else
  if a1 = 3 then
    some (σ c 3)
  else
  if a1 = 4 then
    some (σ c 4)
  else
  if a1 = 5 then
    some (σ c 5)
  else
  if a1 = 6 then
    some (σ c 6)
  else
  if a1 = 7 then
    some (σ c 7)
  else
  if a1 = 8 then
    mt_ask (fX3_bears fu σ c a2) fun r1 =>
    some r1
  else
  if a1 = 9 then
    mt_ask (fX3_fades fu σ c) fun r2 =>
    some r2
  else
  if a1 = 10 then
    mt_ask (fX3_yields fu σ c) fun r3 =>
    some r3
  else
  if a1 = 11 then
    mt_ask (fX3_renews fu σ c) fun r4 =>
    some r4
  else
  mt_ask (fJ6_bitCount_0f7a4 fu ((σ c 3) &&& a2)) fun r5 =>
  some r5
set_option maxHeartbeats 4000000 in
set_option maxRecDepth 20000 in
theorem vX3_tell {K : mt_C} {fu : Nat} {σ : mt_St} {c : Nat} {a1 : Int32} {a2 : Int32} {r : Int32} (hc : mt_kd c = 3) (hQ : mt_R K (some .int) (some (.int r)) σ) : mt_V K cX3_tell RX3 3 2 σ 0 [(0, .ref (mt_adr (kG K) c)), (1, .int a1), (2, .int a2)] [] (fX3_tell fu σ c a1 a2 = some r) := by
  unfold fX3_tell
  refine mv_iload_n 1 dX3_tell_0 rfl rfl ?_
  refine mv_case (fun e0 => ?_) (fun n0 => ?_)
  · refine mv_tsin 0 64 e0 dX3_tell_1 (by decide) (by decide) rfl (by decide) ?_
    refine mv_aload_n 0 dX3_tell_64 rfl rfl ?_
    refine mg_X3_0 hc fl_X3_9 dX3_tell_65 ?_
    exact mv_iretr hQ dX3_tell_68
  refine mv_case (fun e1 => ?_) (fun n1 => ?_)
  · refine mv_tsin 1 69 e1 dX3_tell_1 (by decide) (by decide) rfl (by decide) ?_
    refine mv_aload_n 0 dX3_tell_69 rfl rfl ?_
    refine mg_X3_1 hc fl_X3_15 dX3_tell_70 ?_
    exact mv_iretr hQ dX3_tell_73
  refine mv_case (fun e2 => ?_) (fun n2 => ?_)
  · refine mv_tsin 2 74 e2 dX3_tell_1 (by decide) (by decide) rfl (by decide) ?_
    refine mv_aload_n 0 dX3_tell_74 rfl rfl ?_
    refine mg_X3_2 hc fl_X3_18 dX3_tell_75 ?_
    exact mv_iretr hQ dX3_tell_78
  refine mv_case (fun e3 => ?_) (fun n3 => ?_)
  · refine mv_tsin 3 79 e3 dX3_tell_1 (by decide) (by decide) rfl (by decide) ?_
    refine mv_aload_n 0 dX3_tell_79 rfl rfl ?_
    refine mg_X3_3 hc fl_X3_21 dX3_tell_80 ?_
    exact mv_iretr hQ dX3_tell_83
  refine mv_case (fun e4 => ?_) (fun n4 => ?_)
  · refine mv_tsin 4 84 e4 dX3_tell_1 (by decide) (by decide) rfl (by decide) ?_
    refine mv_aload_n 0 dX3_tell_84 rfl rfl ?_
    refine mg_X3_4 hc fl_X3_24 dX3_tell_85 ?_
    exact mv_iretr hQ dX3_tell_88
  refine mv_case (fun e5 => ?_) (fun n5 => ?_)
  · refine mv_tsin 5 89 e5 dX3_tell_1 (by decide) (by decide) rfl (by decide) ?_
    refine mv_aload_n 0 dX3_tell_89 rfl rfl ?_
    refine mg_X3_5 hc fl_X3_27 dX3_tell_90 ?_
    exact mv_iretr hQ dX3_tell_93
  refine mv_case (fun e6 => ?_) (fun n6 => ?_)
  · refine mv_tsin 6 94 e6 dX3_tell_1 (by decide) (by decide) rfl (by decide) ?_
    refine mv_aload_n 0 dX3_tell_94 rfl rfl ?_
    refine mg_X3_6 hc fl_X3_30 dX3_tell_95 ?_
    exact mv_iretr hQ dX3_tell_98
  refine mv_case (fun e7 => ?_) (fun n7 => ?_)
  · refine mv_tsin 7 99 e7 dX3_tell_1 (by decide) (by decide) rfl (by decide) ?_
    refine mv_aload_n 0 dX3_tell_99 rfl rfl ?_
    refine mg_X3_7 hc fl_X3_33 dX3_tell_100 ?_
    exact mv_iretr hQ dX3_tell_103
  refine mv_case (fun e8 => ?_) (fun n8 => ?_)
  · refine mv_tsin 8 104 e8 dX3_tell_1 (by decide) (by decide) rfl (by decide) ?_
    refine mv_aload_n 0 dX3_tell_104 rfl rfl ?_
    refine mv_iload_n 2 dX3_tell_105 rfl rfl ?_
    refine mv_cVri (As := [.int a2]) (st := []) cal_X3_bears ins_X3_bears ml_X3_36 hc (by decide) rfl rfl (by decide) rfl (Nat.le_of_ble_eq_true rfl) dX3_tell_106 (fun r h => co_X3_bears hc h) (fun r1 => ?_)
    exact mv_iretr hQ dX3_tell_109
  refine mv_case (fun e9 => ?_) (fun n9 => ?_)
  · refine mv_tsin 9 110 e9 dX3_tell_1 (by decide) (by decide) rfl (by decide) ?_
    refine mv_aload_n 0 dX3_tell_110 rfl rfl ?_
    refine mv_cVri (As := []) (st := []) cal_X3_fades ins_X3_fades ml_X3_40 hc (by decide) rfl rfl (by decide) rfl (Nat.le_of_ble_eq_true rfl) dX3_tell_111 (fun r h => co_X3_fades hc h) (fun r2 => ?_)
    exact mv_iretr hQ dX3_tell_114
  refine mv_case (fun e10 => ?_) (fun n10 => ?_)
  · refine mv_tsin 10 115 e10 dX3_tell_1 (by decide) (by decide) rfl (by decide) ?_
    refine mv_aload_n 0 dX3_tell_115 rfl rfl ?_
    refine mv_cVri (As := []) (st := []) cal_X3_yields ins_X3_yields ml_X3_44 hc (by decide) rfl rfl (by decide) rfl (Nat.le_of_ble_eq_true rfl) dX3_tell_116 (fun r h => co_X3_yields hc h) (fun r3 => ?_)
    exact mv_iretr hQ dX3_tell_119
  refine mv_case (fun e11 => ?_) (fun n11 => ?_)
  · refine mv_tsin 11 120 e11 dX3_tell_1 (by decide) (by decide) rfl (by decide) ?_
    refine mv_aload_n 0 dX3_tell_120 rfl rfl ?_
    refine mv_cVri (As := []) (st := []) cal_X3_renews ins_X3_renews ml_X3_47 hc (by decide) rfl rfl (by decide) rfl (Nat.le_of_ble_eq_true rfl) dX3_tell_121 (fun r h => co_X3_renews hc h) (fun r4 => ?_)
    exact mv_iretr hQ dX3_tell_124
  refine mv_tsout 125 (by have z0 := mt_ne (z := 0) n0 (by decide); have z1 := mt_ne (z := 1) n1 (by decide); have z2 := mt_ne (z := 2) n2 (by decide); have z3 := mt_ne (z := 3) n3 (by decide); have z4 := mt_ne (z := 4) n4 (by decide); have z5 := mt_ne (z := 5) n5 (by decide); have z6 := mt_ne (z := 6) n6 (by decide); have z7 := mt_ne (z := 7) n7 (by decide); have z8 := mt_ne (z := 8) n8 (by decide); have z9 := mt_ne (z := 9) n9 (by decide); have z10 := mt_ne (z := 10) n10 (by decide); have z11 := mt_ne (z := 11) n11 (by decide); omega) dX3_tell_1 (by decide) ?_
  refine mv_aload_n 0 dX3_tell_125 rfl rfl ?_
  refine mg_X3_3 hc fl_X3_21 dX3_tell_126 ?_
  refine mv_iload_n 2 dX3_tell_129 rfl rfl ?_
  refine mv_iand dX3_tell_130 ?_
  refine mv_cSri (As := [.int ((σ c 3) &&& a2)]) (st := []) cal_J6_bitCount_0f7a4 sta_J6_bitCount_0f7a4 ml_X3_50 rfl (by decide) rfl (Nat.le_of_ble_eq_true rfl) dX3_tell_131 (fun r h => co_J6_bitCount_0f7a4 h) (fun r5 => ?_)
  exact mv_iretr hQ dX3_tell_134
theorem co_X3_tell {l : Launch} {G : mt_G} {fu : Nat} {σ : mt_St} {c : Nat} {a1 : Int32} {a2 : Int32} {r : Int32} (hc : mt_kd c = 3) (h : fX3_tell fu σ c a1 a2 = some r) : mt_Con l G yX3_tell cX3_tell 3 (some .int) 2 [.ref (mt_adr G c), .int a1, .int a2] σ (some (.int r)) σ :=
  mt_con (by decide) (Nat.le_of_ble_eq_true rfl) (fun K hl hG hQ => by subst hl; subst hG; exact fun _ => vX3_tell hc hQ h)
theorem dX5_isPair_0 : decode cX5_isPair 0 = .ok (.iload_n 0, 1) := by decide +kernel
theorem dX5_isPair_1 : decode cX5_isPair 1 = .ok (.iconst 5, 1) := by decide +kernel
theorem dX5_isPair_2 : decode cX5_isPair 2 = .ok (.invokestatic 67, 3) := by decide +kernel
theorem dX5_isPair_5 : decode cX5_isPair 5 = .ok (.ifCond .eq 20, 3) := by decide +kernel
theorem dX5_isPair_8 : decode cX5_isPair 8 = .ok (.iload_n 1, 1) := by decide +kernel
theorem dX5_isPair_9 : decode cX5_isPair 9 = .ok (.iconst 5, 1) := by decide +kernel
theorem dX5_isPair_10 : decode cX5_isPair 10 = .ok (.invokestatic 67, 3) := by decide +kernel
theorem dX5_isPair_13 : decode cX5_isPair 13 = .ok (.ifCond .eq 12, 3) := by decide +kernel
theorem dX5_isPair_16 : decode cX5_isPair 16 = .ok (.iload_n 0, 1) := by decide +kernel
theorem dX5_isPair_17 : decode cX5_isPair 17 = .ok (.iload_n 1, 1) := by decide +kernel
theorem dX5_isPair_18 : decode cX5_isPair 18 = .ok (.if_icmp .eq 7, 3) := by decide +kernel
theorem dX5_isPair_21 : decode cX5_isPair 21 = .ok (.iconst 1, 1) := by decide +kernel
theorem dX5_isPair_22 : decode cX5_isPair 22 = .ok (.goto 4, 3) := by decide +kernel
theorem dX5_isPair_25 : decode cX5_isPair 25 = .ok (.iconst 0, 1) := by decide +kernel
theorem dX5_isPair_26 : decode cX5_isPair 26 = .ok (.ireturn, 1) := by decide +kernel
def bX5_isPair_26 (fu : Nat) (y0 : Int32) : Option Int32 :=
  mt_chk (mt_b01 y0) (some y0)
set_option maxHeartbeats 4000000 in
set_option maxRecDepth 20000 in
theorem vX5_isPair_26 {K : mt_C} {fu : Nat} {σ : mt_St} {r : Int32} (hQ : mt_R K (some .boolean) (some (.int r)) σ) : ∀ (y0 : Int32), mt_V K cX5_isPair RX5 2 1 σ 26 [] [.int y0] (bX5_isPair_26 fu y0 = some r) := by
  intro y0
  unfold bX5_isPair_26
  exact mv_zretr hQ dX5_isPair_26
def bX5_isPair_25 (fu : Nat) : Option Int32 :=
  bX5_isPair_26 fu (0 : Int32)
set_option maxHeartbeats 4000000 in
set_option maxRecDepth 20000 in
theorem vX5_isPair_25 {K : mt_C} {fu : Nat} {σ : mt_St} {r : Int32} (hQ : mt_R K (some .boolean) (some (.int r)) σ) : mt_V K cX5_isPair RX5 2 1 σ 25 [] [] (bX5_isPair_25 fu = some r) := by
  unfold bX5_isPair_25
  refine mv_iconst (v := 0) dX5_isPair_25 ic_0 ?_
  exact vX5_isPair_26 hQ (0 : Int32)
def fX5_isPair (fu : Nat) (a1 : Int32) (a2 : Int32) : Option Int32 :=
  mt_ask (fX5_isWithin fu a1 (5 : Int32)) fun r1 =>
  if r1 = 0 then
    bX5_isPair_25 fu
  else
    mt_ask (fX5_isWithin fu a2 (5 : Int32)) fun r2 =>
    if r2 = 0 then
      bX5_isPair_25 fu
    else
      if a1 = a2 then
        bX5_isPair_25 fu
      else
        bX5_isPair_26 fu (1 : Int32)
set_option maxHeartbeats 4000000 in
set_option maxRecDepth 20000 in
theorem vX5_isPair {K : mt_C} {fu : Nat} {σ : mt_St} {a1 : Int32} {a2 : Int32} {r : Int32} (hQ : mt_R K (some .boolean) (some (.int r)) σ) : mt_V K cX5_isPair RX5 2 1 σ 0 [(0, .int a1), (1, .int a2)] [] (fX5_isPair fu a1 a2 = some r) := by
  unfold fX5_isPair
  refine mv_iload_n 0 dX5_isPair_0 rfl rfl ?_
  refine mv_iconst (v := 5) dX5_isPair_1 ic_5 ?_
  refine mv_cSri (As := [.int a1, .int (5 : Int32)]) (st := []) cal_X5_isWithin sta_X5_isWithin ml_X5_67 rfl (by decide) rfl (Nat.le_of_ble_eq_true rfl) dX5_isPair_2 (fun r h => co_X5_isWithin h) (fun r1 => ?_)
  refine mv_if_eq 25 dX5_isPair_5 (by decide) ?_ ?_
  · refine mv_sub (lv' := []) [] rfl ?_
    exact vX5_isPair_25 hQ
  · refine mv_iload_n 1 dX5_isPair_8 rfl rfl ?_
    refine mv_iconst (v := 5) dX5_isPair_9 ic_5 ?_
    refine mv_cSri (As := [.int a2, .int (5 : Int32)]) (st := []) cal_X5_isWithin sta_X5_isWithin ml_X5_67 rfl (by decide) rfl (Nat.le_of_ble_eq_true rfl) dX5_isPair_10 (fun r h => co_X5_isWithin h) (fun r2 => ?_)
    refine mv_if_eq 25 dX5_isPair_13 (by decide) ?_ ?_
    · refine mv_sub (lv' := []) [] rfl ?_
      exact vX5_isPair_25 hQ
    · refine mv_iload_n 0 dX5_isPair_16 rfl rfl ?_
      refine mv_iload_n 1 dX5_isPair_17 rfl rfl ?_
      refine mv_icmp_eq 25 dX5_isPair_18 (by decide) ?_ ?_
      · refine mv_sub (lv' := []) [] rfl ?_
        exact vX5_isPair_25 hQ
      · refine mv_iconst (v := 1) dX5_isPair_21 ic_1 ?_
        refine mv_goto 26 dX5_isPair_22 (by decide) ?_
        refine mv_sub (lv' := []) [] rfl ?_
        exact vX5_isPair_26 hQ (1 : Int32)
theorem co_X5_isPair {l : Launch} {G : mt_G} {fu : Nat} {σ : mt_St} {a1 : Int32} {a2 : Int32} {r : Int32}  (h : fX5_isPair fu a1 a2 = some r) : mt_Con l G yX5_isPair cX5_isPair 2 (some .boolean) 1 [.int a1, .int a2] σ (some (.int r)) σ :=
  mt_con (by decide) (Nat.le_of_ble_eq_true rfl) (fun K hl hG hQ => by subst hl; subst hG; exact fun _ => vX5_isPair  hQ h)
theorem dX3_takes_0 : decode cX3_takes 0 = .ok (.iload_n 1, 1) := by decide +kernel
theorem dX3_takes_1 : decode cX3_takes 1 = .ok (.tableswitch 74 0 4 #[35, 42, 51, 60, 68], 35) := by decide +kernel
theorem dX3_takes_36 : decode cX3_takes 36 = .ok (.iload_n 2, 1) := by decide +kernel
theorem dX3_takes_37 : decode cX3_takes 37 = .ok (.bipush 6, 2) := by decide +kernel
theorem dX3_takes_39 : decode cX3_takes 39 = .ok (.invokestatic 55, 3) := by decide +kernel
theorem dX3_takes_42 : decode cX3_takes 42 = .ok (.ireturn, 1) := by decide +kernel
theorem dX3_takes_43 : decode cX3_takes 43 = .ok (.iload_n 2, 1) := by decide +kernel
theorem dX3_takes_44 : decode cX3_takes 44 = .ok (.aload_n 0, 1) := by decide +kernel
theorem dX3_takes_45 : decode cX3_takes 45 = .ok (.getfield 18, 3) := by decide +kernel
theorem dX3_takes_48 : decode cX3_takes 48 = .ok (.invokestatic 59, 3) := by decide +kernel
theorem dX3_takes_51 : decode cX3_takes 51 = .ok (.ireturn, 1) := by decide +kernel
theorem dX3_takes_52 : decode cX3_takes 52 = .ok (.aload_n 0, 1) := by decide +kernel
theorem dX3_takes_53 : decode cX3_takes 53 = .ok (.getfield 15, 3) := by decide +kernel
theorem dX3_takes_56 : decode cX3_takes 56 = .ok (.iload_n 2, 1) := by decide +kernel
theorem dX3_takes_57 : decode cX3_takes 57 = .ok (.invokestatic 59, 3) := by decide +kernel
theorem dX3_takes_60 : decode cX3_takes 60 = .ok (.ireturn, 1) := by decide +kernel
theorem dX3_takes_61 : decode cX3_takes 61 = .ok (.iload_n 2, 1) := by decide +kernel
theorem dX3_takes_62 : decode cX3_takes 62 = .ok (.sipush 4095, 3) := by decide +kernel
theorem dX3_takes_65 : decode cX3_takes 65 = .ok (.invokestatic 55, 3) := by decide +kernel
theorem dX3_takes_68 : decode cX3_takes 68 = .ok (.ireturn, 1) := by decide +kernel
theorem dX3_takes_69 : decode cX3_takes 69 = .ok (.iload_n 2, 1) := by decide +kernel
theorem dX3_takes_70 : decode cX3_takes 70 = .ok (.iconst 1, 1) := by decide +kernel
theorem dX3_takes_71 : decode cX3_takes 71 = .ok (.invokestatic 55, 3) := by decide +kernel
theorem dX3_takes_74 : decode cX3_takes 74 = .ok (.ireturn, 1) := by decide +kernel
theorem dX3_takes_75 : decode cX3_takes 75 = .ok (.iload_n 2, 1) := by decide +kernel
theorem dX3_takes_76 : decode cX3_takes 76 = .ok (.sipush 9999, 3) := by decide +kernel
theorem dX3_takes_79 : decode cX3_takes 79 = .ok (.invokestatic 55, 3) := by decide +kernel
theorem dX3_takes_82 : decode cX3_takes 82 = .ok (.ireturn, 1) := by decide +kernel
def fX3_takes (fu : Nat) (σ : mt_St) (c : Nat) (a1 : Int32) (a2 : Int32) : Option Int32 :=
  if a1 = 0 then
    mt_ask (fX5_isWithin fu a2 (6 : Int32)) fun r1 =>
    mt_chk (mt_b01 r1) (some r1)
  else
  if a1 = 1 then
    mt_ask (fX5_isPair fu a2 (σ c 2)) fun r2 =>
    mt_chk (mt_b01 r2) (some r2)
  else
  if a1 = 2 then
    mt_ask (fX5_isPair fu (σ c 1) a2) fun r3 =>
    mt_chk (mt_b01 r3) (some r3)
  else
  if a1 = 3 then
    mt_ask (fX5_isWithin fu a2 (4095 : Int32)) fun r4 =>
    mt_chk (mt_b01 r4) (some r4)
  else
  if a1 = 4 then
    mt_ask (fX5_isWithin fu a2 (1 : Int32)) fun r5 =>
    mt_chk (mt_b01 r5) (some r5)
  else
  mt_ask (fX5_isWithin fu a2 (9999 : Int32)) fun r6 =>
  mt_chk (mt_b01 r6) (some r6)
set_option maxHeartbeats 4000000 in
set_option maxRecDepth 20000 in
theorem vX3_takes {K : mt_C} {fu : Nat} {σ : mt_St} {c : Nat} {a1 : Int32} {a2 : Int32} {r : Int32} (hc : mt_kd c = 3) (hQ : mt_R K (some .boolean) (some (.int r)) σ) : mt_V K cX3_takes RX3 3 2 σ 0 [(0, .ref (mt_adr (kG K) c)), (1, .int a1), (2, .int a2)] [] (fX3_takes fu σ c a1 a2 = some r) := by
  unfold fX3_takes
  refine mv_iload_n 1 dX3_takes_0 rfl rfl ?_
  refine mv_case (fun e0 => ?_) (fun n0 => ?_)
  · refine mv_tsin 0 36 e0 dX3_takes_1 (by decide) (by decide) rfl (by decide) ?_
    refine mv_iload_n 2 dX3_takes_36 rfl rfl ?_
    refine mv_bipush (v := 6) dX3_takes_37 bp_6 ?_
    refine mv_cSri (As := [.int a2, .int (6 : Int32)]) (st := []) cal_X5_isWithin sta_X5_isWithin ml_X3_55 rfl (by decide) rfl (Nat.le_of_ble_eq_true rfl) dX3_takes_39 (fun r h => co_X5_isWithin h) (fun r1 => ?_)
    exact mv_zretr hQ dX3_takes_42
  refine mv_case (fun e1 => ?_) (fun n1 => ?_)
  · refine mv_tsin 1 43 e1 dX3_takes_1 (by decide) (by decide) rfl (by decide) ?_
    refine mv_iload_n 2 dX3_takes_43 rfl rfl ?_
    refine mv_aload_n 0 dX3_takes_44 rfl rfl ?_
    refine mg_X3_2 hc fl_X3_18 dX3_takes_45 ?_
    refine mv_cSri (As := [.int a2, .int (σ c 2)]) (st := []) cal_X5_isPair sta_X5_isPair ml_X3_59 rfl (by decide) rfl (Nat.le_of_ble_eq_true rfl) dX3_takes_48 (fun r h => co_X5_isPair h) (fun r2 => ?_)
    exact mv_zretr hQ dX3_takes_51
  refine mv_case (fun e2 => ?_) (fun n2 => ?_)
  · refine mv_tsin 2 52 e2 dX3_takes_1 (by decide) (by decide) rfl (by decide) ?_
    refine mv_aload_n 0 dX3_takes_52 rfl rfl ?_
    refine mg_X3_1 hc fl_X3_15 dX3_takes_53 ?_
    refine mv_iload_n 2 dX3_takes_56 rfl rfl ?_
    refine mv_cSri (As := [.int (σ c 1), .int a2]) (st := []) cal_X5_isPair sta_X5_isPair ml_X3_59 rfl (by decide) rfl (Nat.le_of_ble_eq_true rfl) dX3_takes_57 (fun r h => co_X5_isPair h) (fun r3 => ?_)
    exact mv_zretr hQ dX3_takes_60
  refine mv_case (fun e3 => ?_) (fun n3 => ?_)
  · refine mv_tsin 3 61 e3 dX3_takes_1 (by decide) (by decide) rfl (by decide) ?_
    refine mv_iload_n 2 dX3_takes_61 rfl rfl ?_
    refine mv_sipush (v := 4095) dX3_takes_62 sp_4095 ?_
    refine mv_cSri (As := [.int a2, .int (4095 : Int32)]) (st := []) cal_X5_isWithin sta_X5_isWithin ml_X3_55 rfl (by decide) rfl (Nat.le_of_ble_eq_true rfl) dX3_takes_65 (fun r h => co_X5_isWithin h) (fun r4 => ?_)
    exact mv_zretr hQ dX3_takes_68
  refine mv_case (fun e4 => ?_) (fun n4 => ?_)
  · refine mv_tsin 4 69 e4 dX3_takes_1 (by decide) (by decide) rfl (by decide) ?_
    refine mv_iload_n 2 dX3_takes_69 rfl rfl ?_
    refine mv_iconst (v := 1) dX3_takes_70 ic_1 ?_
    refine mv_cSri (As := [.int a2, .int (1 : Int32)]) (st := []) cal_X5_isWithin sta_X5_isWithin ml_X3_55 rfl (by decide) rfl (Nat.le_of_ble_eq_true rfl) dX3_takes_71 (fun r h => co_X5_isWithin h) (fun r5 => ?_)
    exact mv_zretr hQ dX3_takes_74
  refine mv_tsout 75 (by have z0 := mt_ne (z := 0) n0 (by decide); have z1 := mt_ne (z := 1) n1 (by decide); have z2 := mt_ne (z := 2) n2 (by decide); have z3 := mt_ne (z := 3) n3 (by decide); have z4 := mt_ne (z := 4) n4 (by decide); omega) dX3_takes_1 (by decide) ?_
  refine mv_iload_n 2 dX3_takes_75 rfl rfl ?_
  refine mv_sipush (v := 9999) dX3_takes_76 sp_9999 ?_
  refine mv_cSri (As := [.int a2, .int (9999 : Int32)]) (st := []) cal_X5_isWithin sta_X5_isWithin ml_X3_55 rfl (by decide) rfl (Nat.le_of_ble_eq_true rfl) dX3_takes_79 (fun r h => co_X5_isWithin h) (fun r6 => ?_)
  exact mv_zretr hQ dX3_takes_82
theorem co_X3_takes {l : Launch} {G : mt_G} {fu : Nat} {σ : mt_St} {c : Nat} {a1 : Int32} {a2 : Int32} {r : Int32} (hc : mt_kd c = 3) (h : fX3_takes fu σ c a1 a2 = some r) : mt_Con l G yX3_takes cX3_takes 3 (some .boolean) 2 [.ref (mt_adr G c), .int a1, .int a2] σ (some (.int r)) σ :=
  mt_con (by decide) (Nat.le_of_ble_eq_true rfl) (fun K hl hG hQ => by subst hl; subst hG; exact fun _ => vX3_takes hc hQ h)
theorem dX3_alter_0 : decode cX3_alter 0 = .ok (.iload_n 1, 1) := by decide +kernel
theorem dX3_alter_1 : decode cX3_alter 1 = .ok (.tableswitch 99 0 6 #[43, 51, 59, 67, 75, 83, 91], 43) := by decide +kernel
theorem dX3_alter_44 : decode cX3_alter 44 = .ok (.aload_n 0, 1) := by decide +kernel
theorem dX3_alter_45 : decode cX3_alter 45 = .ok (.iload_n 2, 1) := by decide +kernel
theorem dX3_alter_46 : decode cX3_alter 46 = .ok (.putfield 9, 3) := by decide +kernel
theorem dX3_alter_49 : decode cX3_alter 49 = .ok (.goto 56, 3) := by decide +kernel
theorem dX3_alter_52 : decode cX3_alter 52 = .ok (.aload_n 0, 1) := by decide +kernel
theorem dX3_alter_53 : decode cX3_alter 53 = .ok (.iload_n 2, 1) := by decide +kernel
theorem dX3_alter_54 : decode cX3_alter 54 = .ok (.putfield 15, 3) := by decide +kernel
theorem dX3_alter_57 : decode cX3_alter 57 = .ok (.goto 48, 3) := by decide +kernel
theorem dX3_alter_60 : decode cX3_alter 60 = .ok (.aload_n 0, 1) := by decide +kernel
theorem dX3_alter_61 : decode cX3_alter 61 = .ok (.iload_n 2, 1) := by decide +kernel
theorem dX3_alter_62 : decode cX3_alter 62 = .ok (.putfield 18, 3) := by decide +kernel
theorem dX3_alter_65 : decode cX3_alter 65 = .ok (.goto 40, 3) := by decide +kernel
theorem dX3_alter_68 : decode cX3_alter 68 = .ok (.aload_n 0, 1) := by decide +kernel
theorem dX3_alter_69 : decode cX3_alter 69 = .ok (.iload_n 2, 1) := by decide +kernel
theorem dX3_alter_70 : decode cX3_alter 70 = .ok (.putfield 21, 3) := by decide +kernel
theorem dX3_alter_73 : decode cX3_alter 73 = .ok (.goto 32, 3) := by decide +kernel
theorem dX3_alter_76 : decode cX3_alter 76 = .ok (.aload_n 0, 1) := by decide +kernel
theorem dX3_alter_77 : decode cX3_alter 77 = .ok (.iload_n 2, 1) := by decide +kernel
theorem dX3_alter_78 : decode cX3_alter 78 = .ok (.putfield 24, 3) := by decide +kernel
theorem dX3_alter_81 : decode cX3_alter 81 = .ok (.goto 24, 3) := by decide +kernel
theorem dX3_alter_84 : decode cX3_alter 84 = .ok (.aload_n 0, 1) := by decide +kernel
theorem dX3_alter_85 : decode cX3_alter 85 = .ok (.iload_n 2, 1) := by decide +kernel
theorem dX3_alter_86 : decode cX3_alter 86 = .ok (.putfield 27, 3) := by decide +kernel
theorem dX3_alter_89 : decode cX3_alter 89 = .ok (.goto 16, 3) := by decide +kernel
theorem dX3_alter_92 : decode cX3_alter 92 = .ok (.aload_n 0, 1) := by decide +kernel
theorem dX3_alter_93 : decode cX3_alter 93 = .ok (.iload_n 2, 1) := by decide +kernel
theorem dX3_alter_94 : decode cX3_alter 94 = .ok (.putfield 30, 3) := by decide +kernel
theorem dX3_alter_97 : decode cX3_alter 97 = .ok (.goto 8, 3) := by decide +kernel
theorem dX3_alter_100 : decode cX3_alter 100 = .ok (.aload_n 0, 1) := by decide +kernel
theorem dX3_alter_101 : decode cX3_alter 101 = .ok (.iload_n 2, 1) := by decide +kernel
theorem dX3_alter_102 : decode cX3_alter 102 = .ok (.putfield 33, 3) := by decide +kernel
theorem dX3_alter_105 : decode cX3_alter 105 = .ok (.return_, 1) := by decide +kernel
def bX3_alter_105 (fu : Nat) (c : Nat) (σ : mt_St) : Option (Unit × mt_St) :=
  some ((), σ)
set_option maxHeartbeats 4000000 in
set_option maxRecDepth 20000 in
theorem vX3_alter_105 {K : mt_C} {fu : Nat} {c : Nat} {r : Unit} {σf : mt_St} (hc : mt_kd c = 3) (hQ : mt_R K none none σf) : ∀ (σ : mt_St), mt_V K cX3_alter RX3 3 0 σ 105 [] [] (bX3_alter_105 fu c σ = some (r, σf)) := by
  intro σ
  unfold bX3_alter_105
  exact mv_vret hQ dX3_alter_105
def fX3_alter (fu : Nat) (σ : mt_St) (c : Nat) (a1 : Int32) (a2 : Int32) : Option (Unit × mt_St) :=
  if a1 = 0 then
    mt_bnd (mt_up σ c 0 a2) fun s1 =>
    bX3_alter_105 fu c s1
  else
  if a1 = 1 then
    mt_bnd (mt_up σ c 1 a2) fun s2 =>
    bX3_alter_105 fu c s2
  else
  if a1 = 2 then
    mt_bnd (mt_up σ c 2 a2) fun s3 =>
    bX3_alter_105 fu c s3
  else
  if a1 = 3 then
    mt_bnd (mt_up σ c 3 a2) fun s4 =>
    bX3_alter_105 fu c s4
  else
  if a1 = 4 then
    mt_bnd (mt_up σ c 4 a2) fun s5 =>
    bX3_alter_105 fu c s5
  else
  if a1 = 5 then
    mt_bnd (mt_up σ c 5 a2) fun s6 =>
    bX3_alter_105 fu c s6
  else
  if a1 = 6 then
    mt_bnd (mt_up σ c 6 a2) fun s7 =>
    bX3_alter_105 fu c s7
  else
  mt_bnd (mt_up σ c 7 a2) fun s8 =>
  bX3_alter_105 fu c s8
set_option maxHeartbeats 4000000 in
set_option maxRecDepth 20000 in
theorem vX3_alter {K : mt_C} {fu : Nat} {σ : mt_St} {c : Nat} {a1 : Int32} {a2 : Int32} {r : Unit} {σf : mt_St} (hc : mt_kd c = 3) (hQ : mt_R K none none σf) : mt_V K cX3_alter RX3 3 0 σ 0 [(0, .ref (mt_adr (kG K) c)), (1, .int a1), (2, .int a2)] [] (fX3_alter fu σ c a1 a2 = some (r, σf)) := by
  unfold fX3_alter
  refine mv_iload_n 1 dX3_alter_0 rfl rfl ?_
  refine mv_case (fun e0 => ?_) (fun n0 => ?_)
  · refine mv_tsin 0 44 e0 dX3_alter_1 (by decide) (by decide) rfl (by decide) ?_
    refine mv_aload_n 0 dX3_alter_44 rfl rfl ?_
    refine mv_iload_n 2 dX3_alter_45 rfl rfl ?_
    refine mp_X3_0 hc fl_X3_9 dX3_alter_46 (fun s1 => ?_)
    refine mv_goto 105 dX3_alter_49 (by decide) ?_
    refine mv_sub (lv' := []) [] rfl ?_
    exact vX3_alter_105 hc hQ s1
  refine mv_case (fun e1 => ?_) (fun n1 => ?_)
  · refine mv_tsin 1 52 e1 dX3_alter_1 (by decide) (by decide) rfl (by decide) ?_
    refine mv_aload_n 0 dX3_alter_52 rfl rfl ?_
    refine mv_iload_n 2 dX3_alter_53 rfl rfl ?_
    refine mp_X3_1 hc fl_X3_15 dX3_alter_54 (fun s2 => ?_)
    refine mv_goto 105 dX3_alter_57 (by decide) ?_
    refine mv_sub (lv' := []) [] rfl ?_
    exact vX3_alter_105 hc hQ s2
  refine mv_case (fun e2 => ?_) (fun n2 => ?_)
  · refine mv_tsin 2 60 e2 dX3_alter_1 (by decide) (by decide) rfl (by decide) ?_
    refine mv_aload_n 0 dX3_alter_60 rfl rfl ?_
    refine mv_iload_n 2 dX3_alter_61 rfl rfl ?_
    refine mp_X3_2 hc fl_X3_18 dX3_alter_62 (fun s3 => ?_)
    refine mv_goto 105 dX3_alter_65 (by decide) ?_
    refine mv_sub (lv' := []) [] rfl ?_
    exact vX3_alter_105 hc hQ s3
  refine mv_case (fun e3 => ?_) (fun n3 => ?_)
  · refine mv_tsin 3 68 e3 dX3_alter_1 (by decide) (by decide) rfl (by decide) ?_
    refine mv_aload_n 0 dX3_alter_68 rfl rfl ?_
    refine mv_iload_n 2 dX3_alter_69 rfl rfl ?_
    refine mp_X3_3 hc fl_X3_21 dX3_alter_70 (fun s4 => ?_)
    refine mv_goto 105 dX3_alter_73 (by decide) ?_
    refine mv_sub (lv' := []) [] rfl ?_
    exact vX3_alter_105 hc hQ s4
  refine mv_case (fun e4 => ?_) (fun n4 => ?_)
  · refine mv_tsin 4 76 e4 dX3_alter_1 (by decide) (by decide) rfl (by decide) ?_
    refine mv_aload_n 0 dX3_alter_76 rfl rfl ?_
    refine mv_iload_n 2 dX3_alter_77 rfl rfl ?_
    refine mp_X3_4 hc fl_X3_24 dX3_alter_78 (fun s5 => ?_)
    refine mv_goto 105 dX3_alter_81 (by decide) ?_
    refine mv_sub (lv' := []) [] rfl ?_
    exact vX3_alter_105 hc hQ s5
  refine mv_case (fun e5 => ?_) (fun n5 => ?_)
  · refine mv_tsin 5 84 e5 dX3_alter_1 (by decide) (by decide) rfl (by decide) ?_
    refine mv_aload_n 0 dX3_alter_84 rfl rfl ?_
    refine mv_iload_n 2 dX3_alter_85 rfl rfl ?_
    refine mp_X3_5 hc fl_X3_27 dX3_alter_86 (fun s6 => ?_)
    refine mv_goto 105 dX3_alter_89 (by decide) ?_
    refine mv_sub (lv' := []) [] rfl ?_
    exact vX3_alter_105 hc hQ s6
  refine mv_case (fun e6 => ?_) (fun n6 => ?_)
  · refine mv_tsin 6 92 e6 dX3_alter_1 (by decide) (by decide) rfl (by decide) ?_
    refine mv_aload_n 0 dX3_alter_92 rfl rfl ?_
    refine mv_iload_n 2 dX3_alter_93 rfl rfl ?_
    refine mp_X3_6 hc fl_X3_30 dX3_alter_94 (fun s7 => ?_)
    refine mv_goto 105 dX3_alter_97 (by decide) ?_
    refine mv_sub (lv' := []) [] rfl ?_
    exact vX3_alter_105 hc hQ s7
  refine mv_tsout 100 (by have z0 := mt_ne (z := 0) n0 (by decide); have z1 := mt_ne (z := 1) n1 (by decide); have z2 := mt_ne (z := 2) n2 (by decide); have z3 := mt_ne (z := 3) n3 (by decide); have z4 := mt_ne (z := 4) n4 (by decide); have z5 := mt_ne (z := 5) n5 (by decide); have z6 := mt_ne (z := 6) n6 (by decide); omega) dX3_alter_1 (by decide) ?_
  refine mv_aload_n 0 dX3_alter_100 rfl rfl ?_
  refine mv_iload_n 2 dX3_alter_101 rfl rfl ?_
  refine mp_X3_7 hc fl_X3_33 dX3_alter_102 (fun s8 => ?_)
  refine mv_sub (lv' := []) [] rfl ?_
  exact vX3_alter_105 hc hQ s8
theorem co_X3_alter {l : Launch} {G : mt_G} {fu : Nat} {σ : mt_St} {c : Nat} {a1 : Int32} {a2 : Int32} {r : Unit} {σf : mt_St} (hc : mt_kd c = 3) (h : fX3_alter fu σ c a1 a2 = some (r, σf)) : mt_Con l G yX3_alter cX3_alter 3 none 0 [.ref (mt_adr G c), .int a1, .int a2] σ none σf :=
  mt_con (by decide) (Nat.le_of_ble_eq_true rfl) (fun K hl hG hQ => by subst hl; subst hG; exact fun _ => vX3_alter hc hQ h)
theorem dX3_isA_0 : decode cX3_isA 0 = .ok (.aload_n 0, 1) := by decide +kernel
theorem dX3_isA_1 : decode cX3_isA 1 = .ok (.getfield 9, 3) := by decide +kernel
theorem dX3_isA_4 : decode cX3_isA 4 = .ok (.istore_n 2, 1) := by decide +kernel
theorem dX3_isA_5 : decode cX3_isA 5 = .ok (.iconst 0, 1) := by decide +kernel
theorem dX3_isA_6 : decode cX3_isA 6 = .ok (.istore_n 3, 1) := by decide +kernel
theorem dX3_isA_7 : decode cX3_isA 7 = .ok (.iload_n 3, 1) := by decide +kernel
theorem dX3_isA_8 : decode cX3_isA 8 = .ok (.bipush 7, 2) := by decide +kernel
theorem dX3_isA_10 : decode cX3_isA 10 = .ok (.if_icmp .ge 31, 3) := by decide +kernel
theorem dX3_isA_13 : decode cX3_isA 13 = .ok (.iload_n 2, 1) := by decide +kernel
theorem dX3_isA_14 : decode cX3_isA 14 = .ok (.bipush 6, 2) := by decide +kernel
theorem dX3_isA_16 : decode cX3_isA 16 = .ok (.invokestatic 55, 3) := by decide +kernel
theorem dX3_isA_19 : decode cX3_isA 19 = .ok (.ifCond .eq 22, 3) := by decide +kernel
theorem dX3_isA_22 : decode cX3_isA 22 = .ok (.iload_n 2, 1) := by decide +kernel
theorem dX3_isA_23 : decode cX3_isA 23 = .ok (.iload_n 1, 1) := by decide +kernel
theorem dX3_isA_24 : decode cX3_isA 24 = .ok (.if_icmp .ne 5, 3) := by decide +kernel
theorem dX3_isA_27 : decode cX3_isA 27 = .ok (.iconst 1, 1) := by decide +kernel
theorem dX3_isA_28 : decode cX3_isA 28 = .ok (.ireturn, 1) := by decide +kernel
theorem dX3_isA_29 : decode cX3_isA 29 = .ok (.getstatic 62, 3) := by decide +kernel
theorem dX3_isA_32 : decode cX3_isA 32 = .ok (.iload_n 2, 1) := by decide +kernel
theorem dX3_isA_33 : decode cX3_isA 33 = .ok (.iaload, 1) := by decide +kernel
theorem dX3_isA_34 : decode cX3_isA 34 = .ok (.istore_n 2, 1) := by decide +kernel
theorem dX3_isA_35 : decode cX3_isA 35 = .ok (.iinc 3 1, 3) := by decide +kernel
theorem dX3_isA_38 : decode cX3_isA 38 = .ok (.goto (-31), 3) := by decide +kernel
theorem dX3_isA_41 : decode cX3_isA 41 = .ok (.iconst 0, 1) := by decide +kernel
theorem dX3_isA_42 : decode cX3_isA 42 = .ok (.ireturn, 1) := by decide +kernel
def bX3_isA_41 (fu : Nat) (c : Nat) (σ : mt_St) : Option Int32 :=
  some (0 : Int32)
set_option maxHeartbeats 4000000 in
set_option maxRecDepth 20000 in
theorem vX3_isA_41 {K : mt_C} {fu : Nat} {c : Nat} {σ : mt_St} {r : Int32} (hc : mt_kd c = 3) (hQ : mt_R K (some .boolean) (some (.int r)) σ) : mt_V K cX3_isA RX3 4 1 σ 41 [] [] (bX3_isA_41 fu c σ = some r) := by
  unfold bX3_isA_41
  refine mv_iconst (v := 0) dX3_isA_41 ic_0 ?_
  exact mv_zretr0 hQ (by decide) dX3_isA_42
def bX3_isA_7 (fu : Nat) (c : Nat) (σ : mt_St) : Nat → Int32 → Int32 → Int32 → Option Int32
  | 0, _, _, _ => none
  | n + 1, x1, x2, x3 =>
    if (7 : Int32) ≤ x3 then
      bX3_isA_41 fu c σ
    else
      mt_ask (fX5_isWithin fu x2 (6 : Int32)) fun r1 =>
      if r1 = 0 then
        bX3_isA_41 fu c σ
      else
        if x2 = x1 then
          some (1 : Int32)
        else
          mt_chk (mt_in x2 7) <|
          bX3_isA_7 fu c σ n x1 (mt_ab (Int32.toNatClampNeg x2)) (x3 + 1)
set_option maxHeartbeats 4000000 in
set_option maxRecDepth 20000 in
theorem vX3_isA_7 {K : mt_C} {fu : Nat} {c : Nat} {σ : mt_St} {r : Int32} (hc : mt_kd c = 3) (hQ : mt_R K (some .boolean) (some (.int r)) σ) : ∀ (n : Nat) (x1 : Int32) (x2 : Int32) (x3 : Int32), mt_V K cX3_isA RX3 4 1 σ 7 [(1, .int x1), (2, .int x2), (3, .int x3)] [] (bX3_isA_7 fu c σ n x1 x2 x3 = some r) := by
  intro n
  induction n with
  | zero => intro x1 x2 x3; intro hP; unfold bX3_isA_7 at hP; cases hP
  | succ n ih =>
    intro x1 x2 x3
    unfold bX3_isA_7
    refine mv_iload_n 2 dX3_isA_7 rfl rfl ?_
    refine mv_bipush (v := 7) dX3_isA_8 bp_7 ?_
    refine mv_icmp_ge 41 dX3_isA_10 (by decide) ?_ ?_
    · refine mv_sub (lv' := []) [] rfl ?_
      exact vX3_isA_41 hc hQ
    · refine mv_iload_n 1 dX3_isA_13 rfl rfl ?_
      refine mv_bipush (v := 6) dX3_isA_14 bp_6 ?_
      refine mv_cSri (As := [.int x2, .int (6 : Int32)]) (st := []) cal_X5_isWithin sta_X5_isWithin ml_X3_55 rfl (by decide) rfl (Nat.le_of_ble_eq_true rfl) dX3_isA_16 (fun r h => co_X5_isWithin h) (fun r1 => ?_)
      refine mv_if_eq 41 dX3_isA_19 (by decide) ?_ ?_
      · refine mv_sub (lv' := []) [] rfl ?_
        exact vX3_isA_41 hc hQ
      · refine mv_iload_n 1 dX3_isA_22 rfl rfl ?_
        refine mv_iload_n 0 dX3_isA_23 rfl rfl ?_
        refine mv_icmp_ne 29 dX3_isA_24 (by decide) ?_ ?_
        · refine mv_getA dX3_isA_29 rfl ?_
          refine mv_iload_n 1 dX3_isA_32 rfl rfl ?_
          refine mv_abld dX3_isA_33 ?_
          refine mv_istore_n (lv' := [(1, .int x1), (2, .int (mt_ab (Int32.toNatClampNeg x2))), (3, .int x3)]) [1, 0, 2] dX3_isA_34 rfl (by decide) rfl ?_
          refine mv_iinc (k0 := 2) (v := x3 + 1) (lv' := [(1, .int x1), (2, .int (mt_ab (Int32.toNatClampNeg x2))), (3, .int (x3 + 1))]) [1, 2, 0] dX3_isA_35 rfl (mt_inc ic_1) (by decide) rfl ?_
          refine mv_goto 7 dX3_isA_38 (by decide) ?_
          exact ih x1 (mt_ab (Int32.toNatClampNeg x2)) (x3 + 1)
        · refine mv_iconst (v := 1) dX3_isA_27 ic_1 ?_
          exact mv_zretr0 hQ (by decide) dX3_isA_28
def fX3_isA (fu : Nat) (σ : mt_St) (c : Nat) (a1 : Int32) : Option Int32 :=
  bX3_isA_7 fu c σ fu a1 (σ c 0) (0 : Int32)
set_option maxHeartbeats 4000000 in
set_option maxRecDepth 20000 in
theorem vX3_isA {K : mt_C} {fu : Nat} {σ : mt_St} {c : Nat} {a1 : Int32} {r : Int32} (hc : mt_kd c = 3) (hQ : mt_R K (some .boolean) (some (.int r)) σ) : mt_V K cX3_isA RX3 4 1 σ 0 [(0, .ref (mt_adr (kG K) c)), (1, .int a1)] [] (fX3_isA fu σ c a1 = some r) := by
  unfold fX3_isA
  refine mv_aload_n 0 dX3_isA_0 rfl rfl ?_
  refine mg_X3_0 hc fl_X3_9 dX3_isA_1 ?_
  refine mv_istore_n (lv' := [(1, .int a1), (2, .int (σ c 0))]) [2, 0] dX3_isA_4 rfl (by decide) rfl ?_
  refine mv_iconst (v := 0) dX3_isA_5 ic_0 ?_
  refine mv_istore_n (lv' := [(1, .int a1), (2, .int (σ c 0)), (3, .int (0 : Int32))]) [1, 2, 0] dX3_isA_6 rfl (by decide) rfl ?_
  exact vX3_isA_7 hc hQ fu a1 (σ c 0) (0 : Int32)
theorem co_X3_isA {l : Launch} {G : mt_G} {fu : Nat} {σ : mt_St} {c : Nat} {a1 : Int32} {r : Int32} (hc : mt_kd c = 3) (h : fX3_isA fu σ c a1 = some r) : mt_Con l G yX3_isA cX3_isA 4 (some .boolean) 1 [.ref (mt_adr G c), .int a1] σ (some (.int r)) σ :=
  mt_con (by decide) (Nat.le_of_ble_eq_true rfl) (fun K hl hG hQ => by subst hl; subst hG; exact fun _ => vX3_isA hc hQ h)
theorem dX3_isOverborne_0 : decode cX3_isOverborne 0 = .ok (.aload_n 0, 1) := by decide +kernel
theorem dX3_isOverborne_1 : decode cX3_isOverborne 1 = .ok (.getfield 21, 3) := by decide +kernel
theorem dX3_isOverborne_4 : decode cX3_isOverborne 4 = .ok (.iload_n 1, 1) := by decide +kernel
theorem dX3_isOverborne_5 : decode cX3_isOverborne 5 = .ok (.iand, 1) := by decide +kernel
theorem dX3_isOverborne_6 : decode cX3_isOverborne 6 = .ok (.invokestatic 50, 3) := by decide +kernel
theorem dX3_isOverborne_9 : decode cX3_isOverborne 9 = .ok (.aload_n 0, 1) := by decide +kernel
theorem dX3_isOverborne_10 : decode cX3_isOverborne 10 = .ok (.iload_n 1, 1) := by decide +kernel
theorem dX3_isOverborne_11 : decode cX3_isOverborne 11 = .ok (.invokevirtual 36, 3) := by decide +kernel
theorem dX3_isOverborne_14 : decode cX3_isOverborne 14 = .ok (.if_icmp .le 7, 3) := by decide +kernel
theorem dX3_isOverborne_17 : decode cX3_isOverborne 17 = .ok (.iconst 1, 1) := by decide +kernel
theorem dX3_isOverborne_18 : decode cX3_isOverborne 18 = .ok (.goto 4, 3) := by decide +kernel
theorem dX3_isOverborne_21 : decode cX3_isOverborne 21 = .ok (.iconst 0, 1) := by decide +kernel
theorem dX3_isOverborne_22 : decode cX3_isOverborne 22 = .ok (.ireturn, 1) := by decide +kernel
def bX3_isOverborne_22 (fu : Nat) (c : Nat) (σ : mt_St) (y0 : Int32) : Option Int32 :=
  mt_chk (mt_b01 y0) (some y0)
set_option maxHeartbeats 4000000 in
set_option maxRecDepth 20000 in
theorem vX3_isOverborne_22 {K : mt_C} {fu : Nat} {c : Nat} {σ : mt_St} {r : Int32} (hc : mt_kd c = 3) (hQ : mt_R K (some .boolean) (some (.int r)) σ) : ∀ (y0 : Int32), mt_V K cX3_isOverborne RX3 2 1 σ 22 [] [.int y0] (bX3_isOverborne_22 fu c σ y0 = some r) := by
  intro y0
  unfold bX3_isOverborne_22
  exact mv_zretr hQ dX3_isOverborne_22
def fX3_isOverborne (fu : Nat) (σ : mt_St) (c : Nat) (a1 : Int32) : Option Int32 :=
  mt_ask (fJ6_bitCount_0f7a4 fu ((σ c 3) &&& a1)) fun r1 =>
  mt_ask (fX3_bears fu σ c a1) fun r2 =>
  if r1 ≤ r2 then
    bX3_isOverborne_22 fu c σ (0 : Int32)
  else
    bX3_isOverborne_22 fu c σ (1 : Int32)
set_option maxHeartbeats 4000000 in
set_option maxRecDepth 20000 in
theorem vX3_isOverborne {K : mt_C} {fu : Nat} {σ : mt_St} {c : Nat} {a1 : Int32} {r : Int32} (hc : mt_kd c = 3) (hQ : mt_R K (some .boolean) (some (.int r)) σ) : mt_V K cX3_isOverborne RX3 2 1 σ 0 [(0, .ref (mt_adr (kG K) c)), (1, .int a1)] [] (fX3_isOverborne fu σ c a1 = some r) := by
  unfold fX3_isOverborne
  refine mv_aload_n 0 dX3_isOverborne_0 rfl rfl ?_
  refine mg_X3_3 hc fl_X3_21 dX3_isOverborne_1 ?_
  refine mv_iload_n 1 dX3_isOverborne_4 rfl rfl ?_
  refine mv_iand dX3_isOverborne_5 ?_
  refine mv_cSri (As := [.int ((σ c 3) &&& a1)]) (st := []) cal_J6_bitCount_0f7a4 sta_J6_bitCount_0f7a4 ml_X3_50 rfl (by decide) rfl (Nat.le_of_ble_eq_true rfl) dX3_isOverborne_6 (fun r h => co_J6_bitCount_0f7a4 h) (fun r1 => ?_)
  refine mv_aload_n 0 dX3_isOverborne_9 rfl rfl ?_
  refine mv_iload_n 1 dX3_isOverborne_10 rfl rfl ?_
  refine mv_cVri (As := [.int a1]) (st := [.int r1]) cal_X3_bears ins_X3_bears ml_X3_36 hc (by decide) rfl rfl (by decide) rfl (Nat.le_of_ble_eq_true rfl) dX3_isOverborne_11 (fun r h => co_X3_bears hc h) (fun r2 => ?_)
  refine mv_icmp_le 21 dX3_isOverborne_14 (by decide) ?_ ?_
  · refine mv_iconst (v := 0) dX3_isOverborne_21 ic_0 ?_
    refine mv_sub (lv' := []) [] rfl ?_
    exact vX3_isOverborne_22 hc hQ (0 : Int32)
  · refine mv_iconst (v := 1) dX3_isOverborne_17 ic_1 ?_
    refine mv_goto 22 dX3_isOverborne_18 (by decide) ?_
    refine mv_sub (lv' := []) [] rfl ?_
    exact vX3_isOverborne_22 hc hQ (1 : Int32)
theorem co_X3_isOverborne {l : Launch} {G : mt_G} {fu : Nat} {σ : mt_St} {c : Nat} {a1 : Int32} {r : Int32} (hc : mt_kd c = 3) (h : fX3_isOverborne fu σ c a1 = some r) : mt_Con l G yX3_isOverborne cX3_isOverborne 2 (some .boolean) 1 [.ref (mt_adr G c), .int a1] σ (some (.int r)) σ :=
  mt_con (by decide) (Nat.le_of_ble_eq_true rfl) (fun K hl hG hQ => by subst hl; subst hG; exact fun _ => vX3_isOverborne hc hQ h)
theorem dX3_await_0 : decode cX3_await 0 = .ok (.aload_n 0, 1) := by decide +kernel
theorem dX3_await_1 : decode cX3_await 1 = .ok (.aload_n 0, 1) := by decide +kernel
theorem dX3_await_2 : decode cX3_await 2 = .ok (.getfield 30, 3) := by decide +kernel
theorem dX3_await_5 : decode cX3_await 5 = .ok (.iconst 1, 1) := by decide +kernel
theorem dX3_await_6 : decode cX3_await 6 = .ok (.iadd, 1) := by decide +kernel
theorem dX3_await_7 : decode cX3_await 7 = .ok (.sipush 9999, 3) := by decide +kernel
theorem dX3_await_10 : decode cX3_await 10 = .ok (.invokestatic 74, 3) := by decide +kernel
theorem dX3_await_13 : decode cX3_await 13 = .ok (.putfield 30, 3) := by decide +kernel
theorem dX3_await_16 : decode cX3_await 16 = .ok (.aload_n 0, 1) := by decide +kernel
theorem dX3_await_17 : decode cX3_await 17 = .ok (.invokevirtual 47, 3) := by decide +kernel
theorem dX3_await_20 : decode cX3_await 20 = .ok (.istore_n 2, 1) := by decide +kernel
theorem dX3_await_21 : decode cX3_await 21 = .ok (.iload_n 2, 1) := by decide +kernel
theorem dX3_await_22 : decode cX3_await 22 = .ok (.ifCond .le 31, 3) := by decide +kernel
theorem dX3_await_25 : decode cX3_await 25 = .ok (.aload_n 0, 1) := by decide +kernel
theorem dX3_await_26 : decode cX3_await 26 = .ok (.getfield 30, 3) := by decide +kernel
theorem dX3_await_29 : decode cX3_await 29 = .ok (.iload_n 2, 1) := by decide +kernel
theorem dX3_await_30 : decode cX3_await 30 = .ok (.if_icmp .lt 23, 3) := by decide +kernel
theorem dX3_await_33 : decode cX3_await 33 = .ok (.aload_n 0, 1) := by decide +kernel
theorem dX3_await_34 : decode cX3_await 34 = .ok (.iconst 1, 1) := by decide +kernel
theorem dX3_await_35 : decode cX3_await 35 = .ok (.putfield 24, 3) := by decide +kernel
theorem dX3_await_38 : decode cX3_await 38 = .ok (.aload_n 0, 1) := by decide +kernel
theorem dX3_await_39 : decode cX3_await 39 = .ok (.iload_n 1, 1) := by decide +kernel
theorem dX3_await_40 : decode cX3_await 40 = .ok (.putfield 21, 3) := by decide +kernel
theorem dX3_await_43 : decode cX3_await 43 = .ok (.aload_n 0, 1) := by decide +kernel
theorem dX3_await_44 : decode cX3_await 44 = .ok (.iconst 0, 1) := by decide +kernel
theorem dX3_await_45 : decode cX3_await 45 = .ok (.putfield 27, 3) := by decide +kernel
theorem dX3_await_48 : decode cX3_await 48 = .ok (.aload_n 0, 1) := by decide +kernel
theorem dX3_await_49 : decode cX3_await 49 = .ok (.iconst 0, 1) := by decide +kernel
theorem dX3_await_50 : decode cX3_await 50 = .ok (.putfield 30, 3) := by decide +kernel
theorem dX3_await_53 : decode cX3_await 53 = .ok (.return_, 1) := by decide +kernel
def bX3_await_53 (fu : Nat) (c : Nat) (σ : mt_St) : Option (Unit × mt_St) :=
  some ((), σ)
set_option maxHeartbeats 4000000 in
set_option maxRecDepth 20000 in
theorem vX3_await_53 {K : mt_C} {fu : Nat} {c : Nat} {r : Unit} {σf : mt_St} (hc : mt_kd c = 3) (hQ : mt_R K none none σf) : ∀ (σ : mt_St), mt_V K cX3_await RX3 3 1 σ 53 [] [] (bX3_await_53 fu c σ = some (r, σf)) := by
  intro σ
  unfold bX3_await_53
  exact mv_vret hQ dX3_await_53
def fX3_await (fu : Nat) (σ : mt_St) (c : Nat) (a1 : Int32) : Option (Unit × mt_St) :=
  mt_bnd (mt_up σ c 6 (mt_min ((σ c 6) + (1 : Int32)) (9999 : Int32))) fun s2 =>
  mt_ask (fX3_renews fu s2 c) fun r3 =>
  if r3 ≤ 0 then
    bX3_await_53 fu c s2
  else
    if (s2 c 6) < r3 then
      bX3_await_53 fu c s2
    else
      mt_bnd (mt_up s2 c 4 (1 : Int32)) fun s4 =>
      mt_bnd (mt_up s4 c 3 a1) fun s5 =>
      mt_bnd (mt_up s5 c 5 (0 : Int32)) fun s6 =>
      mt_bnd (mt_up s6 c 6 (0 : Int32)) fun s7 =>
      bX3_await_53 fu c s7
set_option maxHeartbeats 4000000 in
set_option maxRecDepth 20000 in
theorem vX3_await {K : mt_C} {fu : Nat} {σ : mt_St} {c : Nat} {a1 : Int32} {r : Unit} {σf : mt_St} (hc : mt_kd c = 3) (hQ : mt_R K none none σf) : mt_V K cX3_await RX3 3 1 σ 0 [(0, .ref (mt_adr (kG K) c)), (1, .int a1)] [] (fX3_await fu σ c a1 = some (r, σf)) := by
  unfold fX3_await
  refine mv_aload_n 0 dX3_await_0 rfl rfl ?_
  refine mv_aload_n 0 dX3_await_1 rfl rfl ?_
  refine mg_X3_6 hc fl_X3_30 dX3_await_2 ?_
  refine mv_iconst (v := 1) dX3_await_5 ic_1 ?_
  refine mv_iadd dX3_await_6 ?_
  refine mv_sipush (v := 9999) dX3_await_7 sp_9999 ?_
  refine mv_mmin mm_X3_74 (by decide) (Nat.le_of_ble_eq_true rfl) dX3_await_10 ?_
  refine mp_X3_6 hc fl_X3_30 dX3_await_13 (fun s2 => ?_)
  refine mv_aload_n 0 dX3_await_16 rfl rfl ?_
  refine mv_cVri (As := []) (st := []) cal_X3_renews ins_X3_renews ml_X3_47 hc (by decide) rfl rfl (by decide) rfl (Nat.le_of_ble_eq_true rfl) dX3_await_17 (fun r h => co_X3_renews hc h) (fun r3 => ?_)
  refine mv_istore_n (lv' := [(0, .ref (mt_adr (kG K) c)), (1, .int a1), (2, .int r3)]) [1, 2, 0] dX3_await_20 rfl (by decide) rfl ?_
  refine mv_iload_n 2 dX3_await_21 rfl rfl ?_
  refine mv_if_le 53 dX3_await_22 (by decide) ?_ ?_
  · refine mv_sub (lv' := []) [] rfl ?_
    exact vX3_await_53 hc hQ s2
  · refine mv_aload_n 0 dX3_await_25 rfl rfl ?_
    refine mg_X3_6 hc fl_X3_30 dX3_await_26 ?_
    refine mv_iload_n 2 dX3_await_29 rfl rfl ?_
    refine mv_icmp_lt 53 dX3_await_30 (by decide) ?_ ?_
    · refine mv_sub (lv' := []) [] rfl ?_
      exact vX3_await_53 hc hQ s2
    · refine mv_aload_n 0 dX3_await_33 rfl rfl ?_
      refine mv_iconst (v := 1) dX3_await_34 ic_1 ?_
      refine mp_X3_4 hc fl_X3_24 dX3_await_35 (fun s4 => ?_)
      refine mv_aload_n 0 dX3_await_38 rfl rfl ?_
      refine mv_iload_n 1 dX3_await_39 rfl rfl ?_
      refine mp_X3_3 hc fl_X3_21 dX3_await_40 (fun s5 => ?_)
      refine mv_aload_n 0 dX3_await_43 rfl rfl ?_
      refine mv_iconst (v := 0) dX3_await_44 ic_0 ?_
      refine mp_X3_5 hc fl_X3_27 dX3_await_45 (fun s6 => ?_)
      refine mv_aload_n 0 dX3_await_48 rfl rfl ?_
      refine mv_iconst (v := 0) dX3_await_49 ic_0 ?_
      refine mp_X3_6 hc fl_X3_30 dX3_await_50 (fun s7 => ?_)
      refine mv_sub (lv' := []) [] rfl ?_
      exact vX3_await_53 hc hQ s7
theorem co_X3_await {l : Launch} {G : mt_G} {fu : Nat} {σ : mt_St} {c : Nat} {a1 : Int32} {r : Unit} {σf : mt_St} (hc : mt_kd c = 3) (h : fX3_await fu σ c a1 = some (r, σf)) : mt_Con l G yX3_await cX3_await 3 none 1 [.ref (mt_adr G c), .int a1] σ none σf :=
  mt_con (by decide) (Nat.le_of_ble_eq_true rfl) (fun K hl hG hQ => by subst hl; subst hG; exact fun _ => vX3_await hc hQ h)
theorem dX3_isToFade_0 : decode cX3_isToFade 0 = .ok (.aload_n 0, 1) := by decide +kernel
theorem dX3_isToFade_1 : decode cX3_isToFade 1 = .ok (.invokevirtual 40, 3) := by decide +kernel
theorem dX3_isToFade_4 : decode cX3_isToFade 4 = .ok (.istore_n 2, 1) := by decide +kernel
theorem dX3_isToFade_5 : decode cX3_isToFade 5 = .ok (.iload_n 2, 1) := by decide +kernel
theorem dX3_isToFade_6 : decode cX3_isToFade 6 = .ok (.ifCond .le 13, 3) := by decide +kernel
theorem dX3_isToFade_9 : decode cX3_isToFade 9 = .ok (.iload_n 1, 1) := by decide +kernel
theorem dX3_isToFade_10 : decode cX3_isToFade 10 = .ok (.iload_n 2, 1) := by decide +kernel
theorem dX3_isToFade_11 : decode cX3_isToFade 11 = .ok (.irem, 1) := by decide +kernel
theorem dX3_isToFade_12 : decode cX3_isToFade 12 = .ok (.ifCond .ne 7, 3) := by decide +kernel
theorem dX3_isToFade_15 : decode cX3_isToFade 15 = .ok (.iconst 1, 1) := by decide +kernel
theorem dX3_isToFade_16 : decode cX3_isToFade 16 = .ok (.goto 4, 3) := by decide +kernel
theorem dX3_isToFade_19 : decode cX3_isToFade 19 = .ok (.iconst 0, 1) := by decide +kernel
theorem dX3_isToFade_20 : decode cX3_isToFade 20 = .ok (.ireturn, 1) := by decide +kernel
def bX3_isToFade_20 (fu : Nat) (c : Nat) (σ : mt_St) (y0 : Int32) : Option Int32 :=
  mt_chk (mt_b01 y0) (some y0)
set_option maxHeartbeats 4000000 in
set_option maxRecDepth 20000 in
theorem vX3_isToFade_20 {K : mt_C} {fu : Nat} {c : Nat} {σ : mt_St} {r : Int32} (hc : mt_kd c = 3) (hQ : mt_R K (some .boolean) (some (.int r)) σ) : ∀ (y0 : Int32), mt_V K cX3_isToFade RX3 3 1 σ 20 [] [.int y0] (bX3_isToFade_20 fu c σ y0 = some r) := by
  intro y0
  unfold bX3_isToFade_20
  exact mv_zretr hQ dX3_isToFade_20
def bX3_isToFade_19 (fu : Nat) (c : Nat) (σ : mt_St) : Option Int32 :=
  bX3_isToFade_20 fu c σ (0 : Int32)
set_option maxHeartbeats 4000000 in
set_option maxRecDepth 20000 in
theorem vX3_isToFade_19 {K : mt_C} {fu : Nat} {c : Nat} {σ : mt_St} {r : Int32} (hc : mt_kd c = 3) (hQ : mt_R K (some .boolean) (some (.int r)) σ) : mt_V K cX3_isToFade RX3 3 1 σ 19 [] [] (bX3_isToFade_19 fu c σ = some r) := by
  unfold bX3_isToFade_19
  refine mv_iconst (v := 0) dX3_isToFade_19 ic_0 ?_
  exact vX3_isToFade_20 hc hQ (0 : Int32)
def fX3_isToFade (fu : Nat) (σ : mt_St) (c : Nat) (a1 : Int32) : Option Int32 :=
  mt_ask (fX3_fades fu σ c) fun r1 =>
  if r1 ≤ 0 then
    bX3_isToFade_19 fu c σ
  else
    mt_chk (!decide (r1 = 0)) <|
    if (a1 - a1 / r1 * r1) = 0 then
      bX3_isToFade_20 fu c σ (1 : Int32)
    else
      bX3_isToFade_19 fu c σ
set_option maxHeartbeats 4000000 in
set_option maxRecDepth 20000 in
theorem vX3_isToFade {K : mt_C} {fu : Nat} {σ : mt_St} {c : Nat} {a1 : Int32} {r : Int32} (hc : mt_kd c = 3) (hQ : mt_R K (some .boolean) (some (.int r)) σ) : mt_V K cX3_isToFade RX3 3 1 σ 0 [(0, .ref (mt_adr (kG K) c)), (1, .int a1)] [] (fX3_isToFade fu σ c a1 = some r) := by
  unfold fX3_isToFade
  refine mv_aload_n 0 dX3_isToFade_0 rfl rfl ?_
  refine mv_cVri (As := []) (st := []) cal_X3_fades ins_X3_fades ml_X3_40 hc (by decide) rfl rfl (by decide) rfl (Nat.le_of_ble_eq_true rfl) dX3_isToFade_1 (fun r h => co_X3_fades hc h) (fun r1 => ?_)
  refine mv_istore_n (lv' := [(1, .int a1), (2, .int r1)]) [2, 0] dX3_isToFade_4 rfl (by decide) rfl ?_
  refine mv_iload_n 1 dX3_isToFade_5 rfl rfl ?_
  refine mv_if_le 19 dX3_isToFade_6 (by decide) ?_ ?_
  · refine mv_sub (lv' := []) [] rfl ?_
    exact vX3_isToFade_19 hc hQ
  · refine mv_iload_n 0 dX3_isToFade_9 rfl rfl ?_
    refine mv_iload_n 1 dX3_isToFade_10 rfl rfl ?_
    refine mv_irem_c dX3_isToFade_11 ?_
    refine mv_if_ne 19 dX3_isToFade_12 (by decide) ?_ ?_
    · refine mv_sub (lv' := []) [] rfl ?_
      exact vX3_isToFade_19 hc hQ
    · refine mv_iconst (v := 1) dX3_isToFade_15 ic_1 ?_
      refine mv_goto 20 dX3_isToFade_16 (by decide) ?_
      refine mv_sub (lv' := []) [] rfl ?_
      exact vX3_isToFade_20 hc hQ (1 : Int32)
theorem co_X3_isToFade {l : Launch} {G : mt_G} {fu : Nat} {σ : mt_St} {c : Nat} {a1 : Int32} {r : Int32} (hc : mt_kd c = 3) (h : fX3_isToFade fu σ c a1 = some r) : mt_Con l G yX3_isToFade cX3_isToFade 3 (some .boolean) 1 [.ref (mt_adr G c), .int a1] σ (some (.int r)) σ :=
  mt_con (by decide) (Nat.le_of_ble_eq_true rfl) (fun K hl hG hQ => by subst hl; subst hG; exact fun _ => vX3_isToFade hc hQ h)
theorem dX3_fade_0 : decode cX3_fade 0 = .ok (.aload_n 0, 1) := by decide +kernel
theorem dX3_fade_1 : decode cX3_fade 1 = .ok (.aload_n 0, 1) := by decide +kernel
theorem dX3_fade_2 : decode cX3_fade 2 = .ok (.getfield 27, 3) := by decide +kernel
theorem dX3_fade_5 : decode cX3_fade 5 = .ok (.invokevirtual 86, 3) := by decide +kernel
theorem dX3_fade_8 : decode cX3_fade 8 = .ok (.ifCond .eq 21, 3) := by decide +kernel
theorem dX3_fade_11 : decode cX3_fade 11 = .ok (.aload_n 0, 1) := by decide +kernel
theorem dX3_fade_12 : decode cX3_fade 12 = .ok (.dup, 1) := by decide +kernel
theorem dX3_fade_13 : decode cX3_fade 13 = .ok (.getfield 21, 3) := by decide +kernel
theorem dX3_fade_16 : decode cX3_fade 16 = .ok (.aload_n 0, 1) := by decide +kernel
theorem dX3_fade_17 : decode cX3_fade 17 = .ok (.getfield 21, 3) := by decide +kernel
theorem dX3_fade_20 : decode cX3_fade 20 = .ok (.invokestatic 89, 3) := by decide +kernel
theorem dX3_fade_23 : decode cX3_fade 23 = .ok (.iconst (-1), 1) := by decide +kernel
theorem dX3_fade_24 : decode cX3_fade 24 = .ok (.ixor, 1) := by decide +kernel
theorem dX3_fade_25 : decode cX3_fade 25 = .ok (.iand, 1) := by decide +kernel
theorem dX3_fade_26 : decode cX3_fade 26 = .ok (.putfield 21, 3) := by decide +kernel
theorem dX3_fade_29 : decode cX3_fade 29 = .ok (.return_, 1) := by decide +kernel
def bX3_fade_29 (fu : Nat) (c : Nat) (σ : mt_St) : Option (Unit × mt_St) :=
  some ((), σ)
set_option maxHeartbeats 4000000 in
set_option maxRecDepth 20000 in
theorem vX3_fade_29 {K : mt_C} {fu : Nat} {c : Nat} {r : Unit} {σf : mt_St} (hc : mt_kd c = 3) (hQ : mt_R K none none σf) : ∀ (σ : mt_St), mt_V K cX3_fade RX3 1 2 σ 29 [] [] (bX3_fade_29 fu c σ = some (r, σf)) := by
  intro σ
  unfold bX3_fade_29
  exact mv_vret hQ dX3_fade_29
def fX3_fade (fu : Nat) (σ : mt_St) (c : Nat) : Option (Unit × mt_St) :=
  mt_ask (fX3_isToFade fu σ c (σ c 5)) fun r1 =>
  if r1 = 0 then
    bX3_fade_29 fu c σ
  else
    mt_ask (fJ6_highestOneBit_0f7a4 fu (σ c 3)) fun r2 =>
    mt_bnd (mt_up σ c 3 ((σ c 3) &&& (r2 ^^^ (-1 : Int32)))) fun s3 =>
    bX3_fade_29 fu c s3
set_option maxHeartbeats 4000000 in
set_option maxRecDepth 20000 in
theorem vX3_fade {K : mt_C} {fu : Nat} {σ : mt_St} {c : Nat} {r : Unit} {σf : mt_St} (hc : mt_kd c = 3) (hQ : mt_R K none none σf) : mt_V K cX3_fade RX3 1 2 σ 0 [(0, .ref (mt_adr (kG K) c))] [] (fX3_fade fu σ c = some (r, σf)) := by
  unfold fX3_fade
  refine mv_aload_n 0 dX3_fade_0 rfl rfl ?_
  refine mv_aload_n 0 dX3_fade_1 rfl rfl ?_
  refine mg_X3_5 hc fl_X3_27 dX3_fade_2 ?_
  refine mv_cVri (As := [.int (σ c 5)]) (st := []) cal_X3_isToFade ins_X3_isToFade ml_X3_86 hc (by decide) rfl rfl (by decide) rfl (Nat.le_of_ble_eq_true rfl) dX3_fade_5 (fun r h => co_X3_isToFade hc h) (fun r1 => ?_)
  refine mv_if_eq 29 dX3_fade_8 (by decide) ?_ ?_
  · refine mv_sub (lv' := []) [] rfl ?_
    exact vX3_fade_29 hc hQ σ
  · refine mv_aload_n 0 dX3_fade_11 rfl rfl ?_
    refine mv_dup dX3_fade_12 rfl ?_
    refine mg_X3_3 hc fl_X3_21 dX3_fade_13 ?_
    refine mv_aload_n 0 dX3_fade_16 rfl rfl ?_
    refine mg_X3_3 hc fl_X3_21 dX3_fade_17 ?_
    refine mv_cSri (As := [.int (σ c 3)]) (st := [.int (σ c 3), .ref (mt_adr (kG K) c)]) cal_J6_highestOneBit_0f7a4 sta_J6_highestOneBit_0f7a4 ml_X3_89 rfl (by decide) rfl (Nat.le_of_ble_eq_true rfl) dX3_fade_20 (fun r h => co_J6_highestOneBit_0f7a4 h) (fun r2 => ?_)
    refine mv_iconst (v := -1) dX3_fade_23 ic_m1 ?_
    refine mv_ixor dX3_fade_24 ?_
    refine mv_iand dX3_fade_25 ?_
    refine mp_X3_3 hc fl_X3_21 dX3_fade_26 (fun s3 => ?_)
    refine mv_sub (lv' := []) [] rfl ?_
    exact vX3_fade_29 hc hQ s3
theorem co_X3_fade {l : Launch} {G : mt_G} {fu : Nat} {σ : mt_St} {c : Nat} {r : Unit} {σf : mt_St} (hc : mt_kd c = 3) (h : fX3_fade fu σ c = some (r, σf)) : mt_Con l G yX3_fade cX3_fade 1 none 2 [.ref (mt_adr G c)] σ none σf :=
  mt_con (by decide) (Nat.le_of_ble_eq_true rfl) (fun K hl hG hQ => by subst hl; subst hG; exact fun _ => vX3_fade hc hQ h)
theorem dX3_live_0 : decode cX3_live 0 = .ok (.aload_n 0, 1) := by decide +kernel
theorem dX3_live_1 : decode cX3_live 1 = .ok (.getfield 24, 3) := by decide +kernel
theorem dX3_live_4 : decode cX3_live 4 = .ok (.ifCond .ne 10, 3) := by decide +kernel
theorem dX3_live_7 : decode cX3_live 7 = .ok (.aload_n 0, 1) := by decide +kernel
theorem dX3_live_8 : decode cX3_live 8 = .ok (.iload_n 2, 1) := by decide +kernel
theorem dX3_live_9 : decode cX3_live 9 = .ok (.invokevirtual 66, 3) := by decide +kernel
theorem dX3_live_12 : decode cX3_live 12 = .ok (.iconst 0, 1) := by decide +kernel
theorem dX3_live_13 : decode cX3_live 13 = .ok (.ireturn, 1) := by decide +kernel
theorem dX3_live_14 : decode cX3_live 14 = .ok (.aload_n 0, 1) := by decide +kernel
theorem dX3_live_15 : decode cX3_live 15 = .ok (.iload_n 1, 1) := by decide +kernel
theorem dX3_live_16 : decode cX3_live 16 = .ok (.invokevirtual 70, 3) := by decide +kernel
theorem dX3_live_19 : decode cX3_live 19 = .ok (.ifCond .eq 36, 3) := by decide +kernel
theorem dX3_live_22 : decode cX3_live 22 = .ok (.aload_n 0, 1) := by decide +kernel
theorem dX3_live_23 : decode cX3_live 23 = .ok (.iconst 0, 1) := by decide +kernel
theorem dX3_live_24 : decode cX3_live 24 = .ok (.putfield 24, 3) := by decide +kernel
theorem dX3_live_27 : decode cX3_live 27 = .ok (.aload_n 0, 1) := by decide +kernel
theorem dX3_live_28 : decode cX3_live 28 = .ok (.aload_n 0, 1) := by decide +kernel
theorem dX3_live_29 : decode cX3_live 29 = .ok (.getfield 33, 3) := by decide +kernel
theorem dX3_live_32 : decode cX3_live 32 = .ok (.iconst 1, 1) := by decide +kernel
theorem dX3_live_33 : decode cX3_live 33 = .ok (.iadd, 1) := by decide +kernel
theorem dX3_live_34 : decode cX3_live 34 = .ok (.sipush 9999, 3) := by decide +kernel
theorem dX3_live_37 : decode cX3_live 37 = .ok (.invokestatic 74, 3) := by decide +kernel
theorem dX3_live_40 : decode cX3_live 40 = .ok (.putfield 33, 3) := by decide +kernel
theorem dX3_live_43 : decode cX3_live 43 = .ok (.aload_n 0, 1) := by decide +kernel
theorem dX3_live_44 : decode cX3_live 44 = .ok (.iconst 0, 1) := by decide +kernel
theorem dX3_live_45 : decode cX3_live 45 = .ok (.putfield 27, 3) := by decide +kernel
theorem dX3_live_48 : decode cX3_live 48 = .ok (.aload_n 0, 1) := by decide +kernel
theorem dX3_live_49 : decode cX3_live 49 = .ok (.iconst 0, 1) := by decide +kernel
theorem dX3_live_50 : decode cX3_live 50 = .ok (.putfield 30, 3) := by decide +kernel
theorem dX3_live_53 : decode cX3_live 53 = .ok (.iconst 0, 1) := by decide +kernel
theorem dX3_live_54 : decode cX3_live 54 = .ok (.ireturn, 1) := by decide +kernel
theorem dX3_live_55 : decode cX3_live 55 = .ok (.aload_n 0, 1) := by decide +kernel
theorem dX3_live_56 : decode cX3_live 56 = .ok (.invokevirtual 44, 3) := by decide +kernel
theorem dX3_live_59 : decode cX3_live 59 = .ok (.istore_n 3, 1) := by decide +kernel
theorem dX3_live_60 : decode cX3_live 60 = .ok (.aload_n 0, 1) := by decide +kernel
theorem dX3_live_61 : decode cX3_live 61 = .ok (.aload_n 0, 1) := by decide +kernel
theorem dX3_live_62 : decode cX3_live 62 = .ok (.getfield 27, 3) := by decide +kernel
theorem dX3_live_65 : decode cX3_live 65 = .ok (.iconst 1, 1) := by decide +kernel
theorem dX3_live_66 : decode cX3_live 66 = .ok (.iadd, 1) := by decide +kernel
theorem dX3_live_67 : decode cX3_live 67 = .ok (.sipush 9999, 3) := by decide +kernel
theorem dX3_live_70 : decode cX3_live 70 = .ok (.invokestatic 74, 3) := by decide +kernel
theorem dX3_live_73 : decode cX3_live 73 = .ok (.putfield 27, 3) := by decide +kernel
theorem dX3_live_76 : decode cX3_live 76 = .ok (.aload_n 0, 1) := by decide +kernel
theorem dX3_live_77 : decode cX3_live 77 = .ok (.invokevirtual 80, 3) := by decide +kernel
theorem dX3_live_80 : decode cX3_live 80 = .ok (.iload_n 3, 1) := by decide +kernel
theorem dX3_live_81 : decode cX3_live 81 = .ok (.ireturn, 1) := by decide +kernel
def fX3_live (fu : Nat) (σ : mt_St) (c : Nat) (a1 : Int32) (a2 : Int32) : Option (Int32 × mt_St) :=
  if (σ c 4) = 0 then
    mt_call (fX3_await fu σ c a2) fun _ s13 =>
    some ((0 : Int32), s13)
  else
    mt_ask (fX3_isOverborne fu σ c a1) fun r1 =>
    if r1 = 0 then
      mt_ask (fX3_yields fu σ c) fun r2 =>
      mt_bnd (mt_up σ c 5 (mt_min ((σ c 5) + (1 : Int32)) (9999 : Int32))) fun s4 =>
      mt_call (fX3_fade fu s4 c) fun _ s6 =>
      some (r2, s6)
    else
      mt_bnd (mt_up σ c 4 (0 : Int32)) fun s7 =>
      mt_bnd (mt_up s7 c 7 (mt_min ((s7 c 7) + (1 : Int32)) (9999 : Int32))) fun s9 =>
      mt_bnd (mt_up s9 c 5 (0 : Int32)) fun s10 =>
      mt_bnd (mt_up s10 c 6 (0 : Int32)) fun s11 =>
      some ((0 : Int32), s11)
set_option maxHeartbeats 4000000 in
set_option maxRecDepth 20000 in
theorem vX3_live {K : mt_C} {fu : Nat} {σ : mt_St} {c : Nat} {a1 : Int32} {a2 : Int32} {r : Int32} {σf : mt_St} (hc : mt_kd c = 3) (hQ : mt_R K (some .int) (some (.int r)) σf) : mt_V K cX3_live RX3 4 3 σ 0 [(0, .ref (mt_adr (kG K) c)), (1, .int a1), (2, .int a2)] [] (fX3_live fu σ c a1 a2 = some (r, σf)) := by
  unfold fX3_live
  refine mv_aload_n 0 dX3_live_0 rfl rfl ?_
  refine mg_X3_4 hc fl_X3_24 dX3_live_1 ?_
  refine mv_if_ne 14 dX3_live_4 (by decide) ?_ ?_
  · refine mv_aload_n 0 dX3_live_14 rfl rfl ?_
    refine mv_iload_n 1 dX3_live_15 rfl rfl ?_
    refine mv_cVri (As := [.int a1]) (st := []) cal_X3_isOverborne ins_X3_isOverborne ml_X3_70 hc (by decide) rfl rfl (by decide) rfl (Nat.le_of_ble_eq_true rfl) dX3_live_16 (fun r h => co_X3_isOverborne hc h) (fun r1 => ?_)
    refine mv_if_eq 55 dX3_live_19 (by decide) ?_ ?_
    · refine mv_aload_n 0 dX3_live_55 rfl rfl ?_
      refine mv_cVri (As := []) (st := []) cal_X3_yields ins_X3_yields ml_X3_44 hc (by decide) rfl rfl (by decide) rfl (Nat.le_of_ble_eq_true rfl) dX3_live_56 (fun r h => co_X3_yields hc h) (fun r2 => ?_)
      refine mv_istore_n (lv' := [(0, .ref (mt_adr (kG K) c)), (3, .int r2)]) [1, 0] dX3_live_59 rfl (by decide) rfl ?_
      refine mv_aload_n 0 dX3_live_60 rfl rfl ?_
      refine mv_aload_n 0 dX3_live_61 rfl rfl ?_
      refine mg_X3_5 hc fl_X3_27 dX3_live_62 ?_
      refine mv_iconst (v := 1) dX3_live_65 ic_1 ?_
      refine mv_iadd dX3_live_66 ?_
      refine mv_sipush (v := 9999) dX3_live_67 sp_9999 ?_
      refine mv_mmin mm_X3_74 (by decide) (Nat.le_of_ble_eq_true rfl) dX3_live_70 ?_
      refine mp_X3_5 hc fl_X3_27 dX3_live_73 (fun s4 => ?_)
      refine mv_aload_n 0 dX3_live_76 rfl rfl ?_
      refine mv_cVwv (As := []) (st := []) cal_X3_fade ins_X3_fade ml_X3_80 hc (by decide) rfl rfl (by decide) rfl (Nat.le_of_ble_eq_true rfl) dX3_live_77 (fun r s h => co_X3_fade hc h) (fun r5 s6 => ?_)
      refine mv_iload_n 1 dX3_live_80 rfl rfl ?_
      exact mv_iret hQ dX3_live_81
    · refine mv_aload_n 0 dX3_live_22 rfl rfl ?_
      refine mv_iconst (v := 0) dX3_live_23 ic_0 ?_
      refine mp_X3_4 hc fl_X3_24 dX3_live_24 (fun s7 => ?_)
      refine mv_aload_n 0 dX3_live_27 rfl rfl ?_
      refine mv_aload_n 0 dX3_live_28 rfl rfl ?_
      refine mg_X3_7 hc fl_X3_33 dX3_live_29 ?_
      refine mv_iconst (v := 1) dX3_live_32 ic_1 ?_
      refine mv_iadd dX3_live_33 ?_
      refine mv_sipush (v := 9999) dX3_live_34 sp_9999 ?_
      refine mv_mmin mm_X3_74 (by decide) (Nat.le_of_ble_eq_true rfl) dX3_live_37 ?_
      refine mp_X3_7 hc fl_X3_33 dX3_live_40 (fun s9 => ?_)
      refine mv_aload_n 0 dX3_live_43 rfl rfl ?_
      refine mv_iconst (v := 0) dX3_live_44 ic_0 ?_
      refine mp_X3_5 hc fl_X3_27 dX3_live_45 (fun s10 => ?_)
      refine mv_aload_n 0 dX3_live_48 rfl rfl ?_
      refine mv_iconst (v := 0) dX3_live_49 ic_0 ?_
      refine mp_X3_6 hc fl_X3_30 dX3_live_50 (fun s11 => ?_)
      refine mv_iconst (v := 0) dX3_live_53 ic_0 ?_
      exact mv_iret hQ dX3_live_54
  · refine mv_aload_n 0 dX3_live_7 rfl rfl ?_
    refine mv_iload_n 2 dX3_live_8 rfl rfl ?_
    refine mv_cVwv (As := [.int a2]) (st := []) cal_X3_await ins_X3_await ml_X3_66 hc (by decide) rfl rfl (by decide) rfl (Nat.le_of_ble_eq_true rfl) dX3_live_9 (fun r s h => co_X3_await hc h) (fun r12 s13 => ?_)
    refine mv_iconst (v := 0) dX3_live_12 ic_0 ?_
    exact mv_iret hQ dX3_live_13
theorem co_X3_live {l : Launch} {G : mt_G} {fu : Nat} {σ : mt_St} {c : Nat} {a1 : Int32} {a2 : Int32} {r : Int32} {σf : mt_St} (hc : mt_kd c = 3) (h : fX3_live fu σ c a1 a2 = some (r, σf)) : mt_Con l G yX3_live cX3_live 4 (some .int) 3 [.ref (mt_adr G c), .int a1, .int a2] σ (some (.int r)) σf :=
  mt_con (by decide) (Nat.le_of_ble_eq_true rfl) (fun K hl hG hQ => by subst hl; subst hG; exact fun _ => vX3_live hc hQ h)
theorem dX3_liveYears_0 : decode cX3_liveYears 0 = .ok (.iconst 0, 1) := by decide +kernel
theorem dX3_liveYears_1 : decode cX3_liveYears 1 = .ok (.istore 4, 2) := by decide +kernel
theorem dX3_liveYears_3 : decode cX3_liveYears 3 = .ok (.iconst 0, 1) := by decide +kernel
theorem dX3_liveYears_4 : decode cX3_liveYears 4 = .ok (.istore 5, 2) := by decide +kernel
theorem dX3_liveYears_6 : decode cX3_liveYears 6 = .ok (.iload 5, 2) := by decide +kernel
theorem dX3_liveYears_8 : decode cX3_liveYears 8 = .ok (.iload_n 2, 1) := by decide +kernel
theorem dX3_liveYears_9 : decode cX3_liveYears 9 = .ok (.if_icmp .ge 30, 3) := by decide +kernel
theorem dX3_liveYears_12 : decode cX3_liveYears 12 = .ok (.iload 5, 2) := by decide +kernel
theorem dX3_liveYears_14 : decode cX3_liveYears 14 = .ok (.aload_n 1, 1) := by decide +kernel
theorem dX3_liveYears_15 : decode cX3_liveYears 15 = .ok (.arraylength, 1) := by decide +kernel
theorem dX3_liveYears_16 : decode cX3_liveYears 16 = .ok (.if_icmp .ge 23, 3) := by decide +kernel
theorem dX3_liveYears_19 : decode cX3_liveYears 19 = .ok (.iload 4, 2) := by decide +kernel
theorem dX3_liveYears_21 : decode cX3_liveYears 21 = .ok (.aload_n 0, 1) := by decide +kernel
theorem dX3_liveYears_22 : decode cX3_liveYears 22 = .ok (.aload_n 1, 1) := by decide +kernel
theorem dX3_liveYears_23 : decode cX3_liveYears 23 = .ok (.iload 5, 2) := by decide +kernel
theorem dX3_liveYears_25 : decode cX3_liveYears 25 = .ok (.iaload, 1) := by decide +kernel
theorem dX3_liveYears_26 : decode cX3_liveYears 26 = .ok (.iload_n 3, 1) := by decide +kernel
theorem dX3_liveYears_27 : decode cX3_liveYears 27 = .ok (.invokevirtual 83, 3) := by decide +kernel
theorem dX3_liveYears_30 : decode cX3_liveYears 30 = .ok (.iadd, 1) := by decide +kernel
theorem dX3_liveYears_31 : decode cX3_liveYears 31 = .ok (.istore 4, 2) := by decide +kernel
theorem dX3_liveYears_33 : decode cX3_liveYears 33 = .ok (.iinc 5 1, 3) := by decide +kernel
theorem dX3_liveYears_36 : decode cX3_liveYears 36 = .ok (.goto (-30), 3) := by decide +kernel
theorem dX3_liveYears_39 : decode cX3_liveYears 39 = .ok (.iload 4, 2) := by decide +kernel
theorem dX3_liveYears_41 : decode cX3_liveYears 41 = .ok (.ireturn, 1) := by decide +kernel
def bX3_liveYears_39 (fu : Nat) (c : Nat) (σ : mt_St) (x4 : Int32) : Option (Int32 × mt_St) :=
  some (x4, σ)
set_option maxHeartbeats 4000000 in
set_option maxRecDepth 20000 in
theorem vX3_liveYears_39 {K : mt_C} {fu : Nat} {c : Nat} {r : Int32} {σf : mt_St} (hc : mt_kd c = 3) (hQ : mt_R K (some .int) (some (.int r)) σf) : ∀ (σ : mt_St) (x4 : Int32), mt_V K cX3_liveYears RX3 6 4 σ 39 [(4, .int x4)] [] (bX3_liveYears_39 fu c σ x4 = some (r, σf)) := by
  intro σ x4
  unfold bX3_liveYears_39
  refine mv_iload 0 dX3_liveYears_39 rfl ?_
  exact mv_iret hQ dX3_liveYears_41
def bX3_liveYears_6 (fu : Nat) (c : Nat) : Nat → mt_St → Int32 → Int32 → Int32 → Int32 → Option (Int32 × mt_St)
  | 0, _, _, _, _, _ => none
  | n + 1, σ, x2, x3, x4, x5 =>
    if x2 ≤ x5 then
      bX3_liveYears_39 fu c σ x4
    else
      if (200 : Int32) ≤ x5 then
        bX3_liveYears_39 fu c σ x4
      else
        mt_chk (mt_in x5 200) <|
        mt_call (fX3_live fu σ c (σ 38 (Int32.toNatClampNeg x5)) x3) fun r1 s2 =>
        bX3_liveYears_6 fu c n s2 x2 x3 (x4 + r1) (x5 + 1)
set_option maxHeartbeats 4000000 in
set_option maxRecDepth 20000 in
theorem vX3_liveYears_6 {K : mt_C} {fu : Nat} {c : Nat} {r : Int32} {σf : mt_St} (hc : mt_kd c = 3) (hQ : mt_R K (some .int) (some (.int r)) σf) : ∀ (n : Nat) (σ : mt_St) (x2 : Int32) (x3 : Int32) (x4 : Int32) (x5 : Int32), mt_V K cX3_liveYears RX3 6 4 σ 6 [(0, .ref (mt_adr (kG K) c)), (1, .ref (mt_adr (kG K) 38)), (2, .int x2), (3, .int x3), (4, .int x4), (5, .int x5)] [] (bX3_liveYears_6 fu c n σ x2 x3 x4 x5 = some (r, σf)) := by
  intro n
  induction n with
  | zero => intro σ x2 x3 x4 x5; intro hP; unfold bX3_liveYears_6 at hP; cases hP
  | succ n ih =>
    intro σ x2 x3 x4 x5
    unfold bX3_liveYears_6
    refine mv_iload 5 dX3_liveYears_6 rfl ?_
    refine mv_iload_n 2 dX3_liveYears_8 rfl rfl ?_
    refine mv_icmp_ge 39 dX3_liveYears_9 (by decide) ?_ ?_
    · refine mv_sub (lv' := [(4, .int x4)]) [4] rfl ?_
      exact vX3_liveYears_39 hc hQ σ x4
    · refine mv_iload 5 dX3_liveYears_12 rfl ?_
      refine mv_aload_n 1 dX3_liveYears_14 rfl rfl ?_
      refine mv_alen (v := 200) 200 rfl rfl (by decide) dX3_liveYears_15 ?_
      refine mv_icmp_ge 39 dX3_liveYears_16 (by decide) ?_ ?_
      · refine mv_sub (lv' := [(4, .int x4)]) [4] rfl ?_
        exact vX3_liveYears_39 hc hQ σ x4
      · refine mv_iload 4 dX3_liveYears_19 rfl ?_
        refine mv_aload_n 0 dX3_liveYears_21 rfl rfl ?_
        refine mv_aload_n 1 dX3_liveYears_22 rfl rfl ?_
        refine mv_iload 5 dX3_liveYears_23 rfl ?_
        refine mv_iald 200 rfl rfl dX3_liveYears_25 ?_
        refine mv_iload_n 3 dX3_liveYears_26 rfl rfl ?_
        refine mv_cVwi (As := [.int (σ 38 (Int32.toNatClampNeg x5)), .int x3]) (st := [.int x4]) cal_X3_live ins_X3_live ml_X3_83 hc (by decide) rfl rfl (by decide) rfl (Nat.le_of_ble_eq_true rfl) dX3_liveYears_27 (fun r s h => co_X3_live hc h) (fun r1 s2 => ?_)
        refine mv_iadd dX3_liveYears_30 ?_
        refine mv_istore (lv' := [(0, .ref (mt_adr (kG K) c)), (1, .ref (mt_adr (kG K) 38)), (2, .int x2), (3, .int x3), (4, .int (x4 + r1)), (5, .int x5)]) [1, 2, 3, 4, 0, 5] dX3_liveYears_31 (by decide) rfl ?_
        refine mv_iinc (k0 := 5) (v := x5 + 1) (lv' := [(0, .ref (mt_adr (kG K) c)), (1, .ref (mt_adr (kG K) 38)), (2, .int x2), (3, .int x3), (4, .int (x4 + r1)), (5, .int (x5 + 1))]) [1, 2, 3, 4, 5, 0] dX3_liveYears_33 rfl (mt_inc ic_1) (by decide) rfl ?_
        refine mv_goto 6 dX3_liveYears_36 (by decide) ?_
        exact ih s2 x2 x3 (x4 + r1) (x5 + 1)
def fX3_liveYears (fu : Nat) (σ : mt_St) (c : Nat) (a2 : Int32) (a3 : Int32) : Option (Int32 × mt_St) :=
  bX3_liveYears_6 fu c fu σ a2 a3 (0 : Int32) (0 : Int32)
set_option maxHeartbeats 4000000 in
set_option maxRecDepth 20000 in
theorem vX3_liveYears {K : mt_C} {fu : Nat} {σ : mt_St} {c : Nat} {a2 : Int32} {a3 : Int32} {r : Int32} {σf : mt_St} (hc : mt_kd c = 3) (hQ : mt_R K (some .int) (some (.int r)) σf) : mt_V K cX3_liveYears RX3 6 4 σ 0 [(0, .ref (mt_adr (kG K) c)), (1, .ref (mt_adr (kG K) 38)), (2, .int a2), (3, .int a3)] [] (fX3_liveYears fu σ c a2 a3 = some (r, σf)) := by
  unfold fX3_liveYears
  refine mv_iconst (v := 0) dX3_liveYears_0 ic_0 ?_
  refine mv_istore (lv' := [(0, .ref (mt_adr (kG K) c)), (1, .ref (mt_adr (kG K) 38)), (2, .int a2), (3, .int a3), (4, .int (0 : Int32))]) [1, 2, 3, 4, 0] dX3_liveYears_1 (by decide) rfl ?_
  refine mv_iconst (v := 0) dX3_liveYears_3 ic_0 ?_
  refine mv_istore (lv' := [(0, .ref (mt_adr (kG K) c)), (1, .ref (mt_adr (kG K) 38)), (2, .int a2), (3, .int a3), (4, .int (0 : Int32)), (5, .int (0 : Int32))]) [1, 2, 3, 4, 5, 0] dX3_liveYears_4 (by decide) rfl ?_
  exact vX3_liveYears_6 hc hQ fu σ a2 a3 (0 : Int32) (0 : Int32)
theorem co_X3_liveYears {l : Launch} {G : mt_G} {fu : Nat} {σ : mt_St} {c : Nat} {a2 : Int32} {a3 : Int32} {r : Int32} {σf : mt_St} (hc : mt_kd c = 3) (h : fX3_liveYears fu σ c a2 a3 = some (r, σf)) : mt_Con l G yX3_liveYears cX3_liveYears 6 (some .int) 4 [.ref (mt_adr G c), .ref (mt_adr G 38), .int a2, .int a3] σ (some (.int r)) σf :=
  mt_con (by decide) (Nat.le_of_ble_eq_true rfl) (fun K hl hG hQ => by subst hl; subst hG; exact fun _ => vX3_liveYears hc hQ h)
theorem dX3_fadesWithin_0 : decode cX3_fadesWithin 0 = .ok (.iconst 1, 1) := by decide +kernel
theorem dX3_fadesWithin_1 : decode cX3_fadesWithin 1 = .ok (.istore_n 2, 1) := by decide +kernel
theorem dX3_fadesWithin_2 : decode cX3_fadesWithin 2 = .ok (.iload_n 2, 1) := by decide +kernel
theorem dX3_fadesWithin_3 : decode cX3_fadesWithin 3 = .ok (.iload_n 1, 1) := by decide +kernel
theorem dX3_fadesWithin_4 : decode cX3_fadesWithin 4 = .ok (.if_icmp .gt 30, 3) := by decide +kernel
theorem dX3_fadesWithin_7 : decode cX3_fadesWithin 7 = .ok (.aload_n 0, 1) := by decide +kernel
theorem dX3_fadesWithin_8 : decode cX3_fadesWithin 8 = .ok (.aload_n 0, 1) := by decide +kernel
theorem dX3_fadesWithin_9 : decode cX3_fadesWithin 9 = .ok (.getfield 27, 3) := by decide +kernel
theorem dX3_fadesWithin_12 : decode cX3_fadesWithin 12 = .ok (.iload_n 2, 1) := by decide +kernel
theorem dX3_fadesWithin_13 : decode cX3_fadesWithin 13 = .ok (.iadd, 1) := by decide +kernel
theorem dX3_fadesWithin_14 : decode cX3_fadesWithin 14 = .ok (.sipush 9999, 3) := by decide +kernel
theorem dX3_fadesWithin_17 : decode cX3_fadesWithin 17 = .ok (.invokestatic 74, 3) := by decide +kernel
theorem dX3_fadesWithin_20 : decode cX3_fadesWithin 20 = .ok (.invokevirtual 86, 3) := by decide +kernel
theorem dX3_fadesWithin_23 : decode cX3_fadesWithin 23 = .ok (.ifCond .eq 5, 3) := by decide +kernel
theorem dX3_fadesWithin_26 : decode cX3_fadesWithin 26 = .ok (.iconst 1, 1) := by decide +kernel
theorem dX3_fadesWithin_27 : decode cX3_fadesWithin 27 = .ok (.ireturn, 1) := by decide +kernel
theorem dX3_fadesWithin_28 : decode cX3_fadesWithin 28 = .ok (.iinc 2 1, 3) := by decide +kernel
theorem dX3_fadesWithin_31 : decode cX3_fadesWithin 31 = .ok (.goto (-29), 3) := by decide +kernel
theorem dX3_fadesWithin_34 : decode cX3_fadesWithin 34 = .ok (.iconst 0, 1) := by decide +kernel
theorem dX3_fadesWithin_35 : decode cX3_fadesWithin 35 = .ok (.ireturn, 1) := by decide +kernel
def bX3_fadesWithin_2 (fu : Nat) (c : Nat) (σ : mt_St) : Nat → Int32 → Int32 → Option Int32
  | 0, _, _ => none
  | n + 1, x1, x2 =>
    if x1 < x2 then
      some (0 : Int32)
    else
      mt_ask (fX3_isToFade fu σ c (mt_min ((σ c 5) + x2) (9999 : Int32))) fun r2 =>
      if r2 = 0 then
        bX3_fadesWithin_2 fu c σ n x1 (x2 + 1)
      else
        some (1 : Int32)
set_option maxHeartbeats 4000000 in
set_option maxRecDepth 20000 in
theorem vX3_fadesWithin_2 {K : mt_C} {fu : Nat} {c : Nat} {σ : mt_St} {r : Int32} (hc : mt_kd c = 3) (hQ : mt_R K (some .boolean) (some (.int r)) σ) : ∀ (n : Nat) (x1 : Int32) (x2 : Int32), mt_V K cX3_fadesWithin RX3 3 2 σ 2 [(0, .ref (mt_adr (kG K) c)), (1, .int x1), (2, .int x2)] [] (bX3_fadesWithin_2 fu c σ n x1 x2 = some r) := by
  intro n
  induction n with
  | zero => intro x1 x2; intro hP; unfold bX3_fadesWithin_2 at hP; cases hP
  | succ n ih =>
    intro x1 x2
    unfold bX3_fadesWithin_2
    refine mv_iload_n 2 dX3_fadesWithin_2 rfl rfl ?_
    refine mv_iload_n 1 dX3_fadesWithin_3 rfl rfl ?_
    refine mv_icmp_gt 34 dX3_fadesWithin_4 (by decide) ?_ ?_
    · refine mv_iconst (v := 0) dX3_fadesWithin_34 ic_0 ?_
      exact mv_zretr0 hQ (by decide) dX3_fadesWithin_35
    · refine mv_aload_n 0 dX3_fadesWithin_7 rfl rfl ?_
      refine mv_aload_n 0 dX3_fadesWithin_8 rfl rfl ?_
      refine mg_X3_5 hc fl_X3_27 dX3_fadesWithin_9 ?_
      refine mv_iload_n 2 dX3_fadesWithin_12 rfl rfl ?_
      refine mv_iadd dX3_fadesWithin_13 ?_
      refine mv_sipush (v := 9999) dX3_fadesWithin_14 sp_9999 ?_
      refine mv_mmin mm_X3_74 (by decide) (Nat.le_of_ble_eq_true rfl) dX3_fadesWithin_17 ?_
      refine mv_cVri (As := [.int (mt_min ((σ c 5) + x2) (9999 : Int32))]) (st := []) cal_X3_isToFade ins_X3_isToFade ml_X3_86 hc (by decide) rfl rfl (by decide) rfl (Nat.le_of_ble_eq_true rfl) dX3_fadesWithin_20 (fun r h => co_X3_isToFade hc h) (fun r2 => ?_)
      refine mv_if_eq 28 dX3_fadesWithin_23 (by decide) ?_ ?_
      · refine mv_iinc (k0 := 2) (v := x2 + 1) (lv' := [(0, .ref (mt_adr (kG K) c)), (1, .int x1), (2, .int (x2 + 1))]) [1, 2, 0] dX3_fadesWithin_28 rfl (mt_inc ic_1) (by decide) rfl ?_
        refine mv_goto 2 dX3_fadesWithin_31 (by decide) ?_
        exact ih x1 (x2 + 1)
      · refine mv_iconst (v := 1) dX3_fadesWithin_26 ic_1 ?_
        exact mv_zretr0 hQ (by decide) dX3_fadesWithin_27
def fX3_fadesWithin (fu : Nat) (σ : mt_St) (c : Nat) (a1 : Int32) : Option Int32 :=
  bX3_fadesWithin_2 fu c σ fu a1 (1 : Int32)
set_option maxHeartbeats 4000000 in
set_option maxRecDepth 20000 in
theorem vX3_fadesWithin {K : mt_C} {fu : Nat} {σ : mt_St} {c : Nat} {a1 : Int32} {r : Int32} (hc : mt_kd c = 3) (hQ : mt_R K (some .boolean) (some (.int r)) σ) : mt_V K cX3_fadesWithin RX3 3 2 σ 0 [(0, .ref (mt_adr (kG K) c)), (1, .int a1)] [] (fX3_fadesWithin fu σ c a1 = some r) := by
  unfold fX3_fadesWithin
  refine mv_iconst (v := 1) dX3_fadesWithin_0 ic_1 ?_
  refine mv_istore_n (lv' := [(0, .ref (mt_adr (kG K) c)), (1, .int a1), (2, .int (1 : Int32))]) [1, 2, 0] dX3_fadesWithin_1 rfl (by decide) rfl ?_
  exact vX3_fadesWithin_2 hc hQ fu a1 (1 : Int32)
theorem co_X3_fadesWithin {l : Launch} {G : mt_G} {fu : Nat} {σ : mt_St} {c : Nat} {a1 : Int32} {r : Int32} (hc : mt_kd c = 3) (h : fX3_fadesWithin fu σ c a1 = some r) : mt_Con l G yX3_fadesWithin cX3_fadesWithin 3 (some .boolean) 2 [.ref (mt_adr G c), .int a1] σ (some (.int r)) σ :=
  mt_con (by decide) (Nat.le_of_ble_eq_true rfl) (fun K hl hG hQ => by subst hl; subst hG; exact fun _ => vX3_fadesWithin hc hQ h)
