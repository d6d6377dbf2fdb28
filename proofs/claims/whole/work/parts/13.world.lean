theorem dX4_sign_0 : decode cX4_sign 0 = .ok (.aload_n 0, 1) := by decide +kernel
theorem dX4_sign_1 : decode cX4_sign 1 = .ok (.getfield 37, 3) := by decide +kernel
theorem dX4_sign_4 : decode cX4_sign 4 = .ok (.bipush 8, 2) := by decide +kernel
theorem dX4_sign_6 : decode cX4_sign 6 = .ok (.if_icmp .ge 32, 3) := by decide +kernel
theorem dX4_sign_9 : decode cX4_sign 9 = .ok (.aload_n 0, 1) := by decide +kernel
theorem dX4_sign_10 : decode cX4_sign 10 = .ok (.getfield 33, 3) := by decide +kernel
theorem dX4_sign_13 : decode cX4_sign 13 = .ok (.aload_n 0, 1) := by decide +kernel
theorem dX4_sign_14 : decode cX4_sign 14 = .ok (.getfield 37, 3) := by decide +kernel
theorem dX4_sign_17 : decode cX4_sign 17 = .ok (.aaload, 1) := by decide +kernel
theorem dX4_sign_18 : decode cX4_sign 18 = .ok (.iload_n 1, 1) := by decide +kernel
theorem dX4_sign_19 : decode cX4_sign 19 = .ok (.iload_n 2, 1) := by decide +kernel
theorem dX4_sign_20 : decode cX4_sign 20 = .ok (.iload_n 3, 1) := by decide +kernel
theorem dX4_sign_21 : decode cX4_sign 21 = .ok (.aload_n 0, 1) := by decide +kernel
theorem dX4_sign_22 : decode cX4_sign 22 = .ok (.getfield 9, 3) := by decide +kernel
theorem dX4_sign_25 : decode cX4_sign 25 = .ok (.invokevirtual 54, 3) := by decide +kernel
theorem dX4_sign_28 : decode cX4_sign 28 = .ok (.aload_n 0, 1) := by decide +kernel
theorem dX4_sign_29 : decode cX4_sign 29 = .ok (.dup, 1) := by decide +kernel
theorem dX4_sign_30 : decode cX4_sign 30 = .ok (.getfield 37, 3) := by decide +kernel
theorem dX4_sign_33 : decode cX4_sign 33 = .ok (.iconst 1, 1) := by decide +kernel
theorem dX4_sign_34 : decode cX4_sign 34 = .ok (.iadd, 1) := by decide +kernel
theorem dX4_sign_35 : decode cX4_sign 35 = .ok (.putfield 37, 3) := by decide +kernel
theorem dX4_sign_38 : decode cX4_sign 38 = .ok (.return_, 1) := by decide +kernel
def bX4_sign_38 (fu : Nat) (c : Nat) (σ : mt_St) : Option (Unit × mt_St) :=
  some ((), σ)
set_option maxHeartbeats 4000000 in
set_option maxRecDepth 20000 in
theorem vX4_sign_38 {K : mt_C} {fu : Nat} {c : Nat} {r : Unit} {σf : mt_St} (hc : mt_kd c = 4) (hQ : mt_R K none none σf) : ∀ (σ : mt_St), mt_V K cX4_sign RX4 4 1 σ 38 [] [] (bX4_sign_38 fu c σ = some (r, σf)) := by
  intro σ
  unfold bX4_sign_38
  exact mv_vret hQ dX4_sign_38
def fX4_sign (fu : Nat) (σ : mt_St) (c : Nat) (a1 : Int32) (a2 : Int32) (a3 : Int32) : Option (Unit × mt_St) :=
  if (8 : Int32) ≤ (σ c 7) then
    bX4_sign_38 fu c σ
  else
    mt_chk (mt_in (σ c 7) 8) <|
    mt_call (fX3_begin fu σ ((c + 2) + 2 + Int32.toNatClampNeg (σ c 7)) a1 a2 a3 (σ c 0)) fun _ s3 =>
    mt_bnd (mt_up s3 c 7 ((s3 c 7) + (1 : Int32))) fun s4 =>
    bX4_sign_38 fu c s4
set_option maxHeartbeats 4000000 in
set_option maxRecDepth 20000 in
theorem vX4_sign {K : mt_C} {fu : Nat} {σ : mt_St} {c : Nat} {a1 : Int32} {a2 : Int32} {a3 : Int32} {r : Unit} {σf : mt_St} (hc : mt_kd c = 4) (hQ : mt_R K none none σf) : mt_V K cX4_sign RX4 4 1 σ 0 [(0, .ref (mt_adr (kG K) c)), (1, .int a1), (2, .int a2), (3, .int a3)] [] (fX4_sign fu σ c a1 a2 a3 = some (r, σf)) := by
  unfold fX4_sign
  refine mv_aload_n 0 dX4_sign_0 rfl rfl ?_
  refine mg_X4_7 hc fl_X4_37 dX4_sign_1 ?_
  refine mv_bipush (v := 8) dX4_sign_4 bp_8 ?_
  refine mv_icmp_ge 38 dX4_sign_6 (by decide) ?_ ?_
  · refine mv_sub (lv' := []) [] rfl ?_
    exact vX4_sign_38 hc hQ σ
  · refine mv_aload_n 0 dX4_sign_9 rfl rfl ?_
    refine mg_X4_6 hc fl_X4_33 dX4_sign_10 ?_
    refine mv_aload_n 0 dX4_sign_13 rfl rfl ?_
    refine mg_X4_7 hc fl_X4_37 dX4_sign_14 ?_
    refine mv_aaldT (kd_w2 hc) (ln_w2 hc) dX4_sign_17 (fun h1 => ?_)
    refine mv_iload_n 1 dX4_sign_18 rfl rfl ?_
    refine mv_iload_n 2 dX4_sign_19 rfl rfl ?_
    refine mv_iload_n 3 dX4_sign_20 rfl rfl ?_
    refine mv_aload_n 0 dX4_sign_21 rfl rfl ?_
    refine mg_X4_0 hc fl_X4_9 dX4_sign_22 ?_
    refine mv_cVwv (As := [.int a1, .int a2, .int a3, .int (σ c 0)]) (st := []) cal_X3_begin ins_X3_begin ml_X4_54 (kd_tr (kd_w2 hc) h1) (by decide) rfl rfl (by decide) rfl (Nat.le_of_ble_eq_true rfl) dX4_sign_25 (fun r s h => co_X3_begin (kd_tr (kd_w2 hc) h1) h) (fun r2 s3 => ?_)
    refine mv_aload_n 0 dX4_sign_28 rfl rfl ?_
    refine mv_dup dX4_sign_29 rfl ?_
    refine mg_X4_7 hc fl_X4_37 dX4_sign_30 ?_
    refine mv_iconst (v := 1) dX4_sign_33 ic_1 ?_
    refine mv_iadd dX4_sign_34 ?_
    refine mp_X4_7 hc fl_X4_37 dX4_sign_35 (fun s4 => ?_)
    refine mv_sub (lv' := []) [] rfl ?_
    exact vX4_sign_38 hc hQ s4
theorem co_X4_sign {l : Launch} {G : mt_G} {fu : Nat} {σ : mt_St} {c : Nat} {a1 : Int32} {a2 : Int32} {a3 : Int32} {r : Unit} {σf : mt_St} (hc : mt_kd c = 4) (h : fX4_sign fu σ c a1 a2 a3 = some (r, σf)) : mt_Con l G yX4_sign cX4_sign 4 none 1 [.ref (mt_adr G c), .int a1, .int a2, .int a3] σ none σf :=
  mt_con (by decide) (Nat.le_of_ble_eq_true rfl) (fun K hl hG hQ => by subst hl; subst hG; exact fun _ => vX4_sign hc hQ h)
theorem dX4_become_0 : decode cX4_become 0 = .ok (.aload_n 0, 1) := by decide +kernel
theorem dX4_become_1 : decode cX4_become 1 = .ok (.aload_n 1, 1) := by decide +kernel
theorem dX4_become_2 : decode cX4_become 2 = .ok (.getfield 9, 3) := by decide +kernel
theorem dX4_become_5 : decode cX4_become 5 = .ok (.putfield 9, 3) := by decide +kernel
theorem dX4_become_8 : decode cX4_become 8 = .ok (.aload_n 0, 1) := by decide +kernel
theorem dX4_become_9 : decode cX4_become 9 = .ok (.aload_n 1, 1) := by decide +kernel
theorem dX4_become_10 : decode cX4_become 10 = .ok (.getfield 15, 3) := by decide +kernel
theorem dX4_become_13 : decode cX4_become 13 = .ok (.putfield 15, 3) := by decide +kernel
theorem dX4_become_16 : decode cX4_become 16 = .ok (.aload_n 1, 1) := by decide +kernel
theorem dX4_become_17 : decode cX4_become 17 = .ok (.getfield 18, 3) := by decide +kernel
theorem dX4_become_20 : decode cX4_become 20 = .ok (.iconst 0, 1) := by decide +kernel
theorem dX4_become_21 : decode cX4_become 21 = .ok (.aload_n 0, 1) := by decide +kernel
theorem dX4_become_22 : decode cX4_become 22 = .ok (.getfield 18, 3) := by decide +kernel
theorem dX4_become_25 : decode cX4_become 25 = .ok (.iconst 0, 1) := by decide +kernel
theorem dX4_become_26 : decode cX4_become 26 = .ok (.bipush 6, 2) := by decide +kernel
theorem dX4_become_28 : decode cX4_become 28 = .ok (.invokestatic 44, 3) := by decide +kernel
theorem dX4_become_31 : decode cX4_become 31 = .ok (.aload_n 0, 1) := by decide +kernel
theorem dX4_become_32 : decode cX4_become 32 = .ok (.aload_n 1, 1) := by decide +kernel
theorem dX4_become_33 : decode cX4_become 33 = .ok (.getfield 22, 3) := by decide +kernel
theorem dX4_become_36 : decode cX4_become 36 = .ok (.putfield 22, 3) := by decide +kernel
theorem dX4_become_39 : decode cX4_become 39 = .ok (.aload_n 0, 1) := by decide +kernel
theorem dX4_become_40 : decode cX4_become 40 = .ok (.aload_n 1, 1) := by decide +kernel
theorem dX4_become_41 : decode cX4_become 41 = .ok (.getfield 25, 3) := by decide +kernel
theorem dX4_become_44 : decode cX4_become 44 = .ok (.putfield 25, 3) := by decide +kernel
theorem dX4_become_47 : decode cX4_become 47 = .ok (.aload_n 0, 1) := by decide +kernel
theorem dX4_become_48 : decode cX4_become 48 = .ok (.aload_n 1, 1) := by decide +kernel
theorem dX4_become_49 : decode cX4_become 49 = .ok (.getfield 28, 3) := by decide +kernel
theorem dX4_become_52 : decode cX4_become 52 = .ok (.putfield 28, 3) := by decide +kernel
theorem dX4_become_55 : decode cX4_become 55 = .ok (.aload_n 0, 1) := by decide +kernel
theorem dX4_become_56 : decode cX4_become 56 = .ok (.aload_n 1, 1) := by decide +kernel
theorem dX4_become_57 : decode cX4_become 57 = .ok (.getfield 37, 3) := by decide +kernel
theorem dX4_become_60 : decode cX4_become 60 = .ok (.putfield 37, 3) := by decide +kernel
theorem dX4_become_63 : decode cX4_become 63 = .ok (.iconst 0, 1) := by decide +kernel
theorem dX4_become_64 : decode cX4_become 64 = .ok (.istore_n 2, 1) := by decide +kernel
theorem dX4_become_65 : decode cX4_become 65 = .ok (.iload_n 2, 1) := by decide +kernel
theorem dX4_become_66 : decode cX4_become 66 = .ok (.aload_n 0, 1) := by decide +kernel
theorem dX4_become_67 : decode cX4_become 67 = .ok (.getfield 37, 3) := by decide +kernel
theorem dX4_become_70 : decode cX4_become 70 = .ok (.if_icmp .ge 30, 3) := by decide +kernel
theorem dX4_become_73 : decode cX4_become 73 = .ok (.iload_n 2, 1) := by decide +kernel
theorem dX4_become_74 : decode cX4_become 74 = .ok (.bipush 8, 2) := by decide +kernel
theorem dX4_become_76 : decode cX4_become 76 = .ok (.if_icmp .ge 24, 3) := by decide +kernel
theorem dX4_become_79 : decode cX4_become 79 = .ok (.aload_n 0, 1) := by decide +kernel
theorem dX4_become_80 : decode cX4_become 80 = .ok (.getfield 33, 3) := by decide +kernel
theorem dX4_become_83 : decode cX4_become 83 = .ok (.iload_n 2, 1) := by decide +kernel
theorem dX4_become_84 : decode cX4_become 84 = .ok (.aaload, 1) := by decide +kernel
theorem dX4_become_85 : decode cX4_become 85 = .ok (.aload_n 1, 1) := by decide +kernel
theorem dX4_become_86 : decode cX4_become 86 = .ok (.getfield 33, 3) := by decide +kernel
theorem dX4_become_89 : decode cX4_become 89 = .ok (.iload_n 2, 1) := by decide +kernel
theorem dX4_become_90 : decode cX4_become 90 = .ok (.aaload, 1) := by decide +kernel
theorem dX4_become_91 : decode cX4_become 91 = .ok (.invokevirtual 50, 3) := by decide +kernel
theorem dX4_become_94 : decode cX4_become 94 = .ok (.iinc 2 1, 3) := by decide +kernel
theorem dX4_become_97 : decode cX4_become 97 = .ok (.goto (-32), 3) := by decide +kernel
theorem dX4_become_100 : decode cX4_become 100 = .ok (.aload_n 1, 1) := by decide +kernel
theorem dX4_become_101 : decode cX4_become 101 = .ok (.getfield 40, 3) := by decide +kernel
theorem dX4_become_104 : decode cX4_become 104 = .ok (.iconst 0, 1) := by decide +kernel
theorem dX4_become_105 : decode cX4_become 105 = .ok (.aload_n 0, 1) := by decide +kernel
theorem dX4_become_106 : decode cX4_become 106 = .ok (.getfield 40, 3) := by decide +kernel
theorem dX4_become_109 : decode cX4_become 109 = .ok (.iconst 0, 1) := by decide +kernel
theorem dX4_become_110 : decode cX4_become 110 = .ok (.bipush 10, 2) := by decide +kernel
theorem dX4_become_112 : decode cX4_become 112 = .ok (.invokestatic 44, 3) := by decide +kernel
theorem dX4_become_115 : decode cX4_become 115 = .ok (.return_, 1) := by decide +kernel
def bX4_become_100 (fu : Nat) (c : Nat) (a1 : Nat) (σ : mt_St) : Option (Unit × mt_St) :=
  mt_chk (mt_cpok (0 : Int32) (0 : Int32) (10 : Int32) 10 10) <|
  mt_bnd (mt_row σ (c + 3) (va_cpy (σ (a1 + 3)) (σ (c + 3)) (Int32.toNatClampNeg (0 : Int32)) (Int32.toNatClampNeg (0 : Int32)) (Int32.toNatClampNeg (10 : Int32)))) fun s2 =>
  some ((), s2)
set_option maxHeartbeats 4000000 in
set_option maxRecDepth 20000 in
theorem vX4_become_100 {K : mt_C} {fu : Nat} {c : Nat} {a1 : Nat} {r : Unit} {σf : mt_St} (hc : mt_kd c = 4) (ha1 : mt_kd a1 = 4) (hQ : mt_R K none none σf) : ∀ (σ : mt_St), mt_V K cX4_become RX4 3 1 σ 100 [(0, .ref (mt_adr (kG K) c)), (1, .ref (mt_adr (kG K) a1))] [] (bX4_become_100 fu c a1 σ = some (r, σf)) := by
  intro σ
  unfold bX4_become_100
  refine mv_aload_n 1 dX4_become_100 rfl rfl ?_
  refine mg_X4_8 ha1 fl_X4_40 dX4_become_101 ?_
  refine mv_iconst (v := 0) dX4_become_104 ic_0 ?_
  refine mv_aload_n 0 dX4_become_105 rfl rfl ?_
  refine mg_X4_8 hc fl_X4_40 dX4_become_106 ?_
  refine mv_iconst (v := 0) dX4_become_109 ic_0 ?_
  refine mv_bipush (v := 10) dX4_become_110 bp_10 ?_
  refine mv_acopy 10 10 (kd_w3 ha1) (ln_w3 ha1) (kd_w3 hc) (ln_w3 hc) ml_X4_44 (by decide) (Nat.le_of_ble_eq_true rfl) dX4_become_112 (fun s2 => ?_)
  exact mv_vret hQ dX4_become_115
def bX4_become_65 (fu : Nat) (c : Nat) (a1 : Nat) : Nat → mt_St → Int32 → Option (Unit × mt_St)
  | 0, _, _ => none
  | n + 1, σ, x2 =>
    if (σ c 7) ≤ x2 then
      bX4_become_100 fu c a1 σ
    else
      if (8 : Int32) ≤ x2 then
        bX4_become_100 fu c a1 σ
      else
        mt_chk (mt_in x2 8) <|
        mt_chk (mt_in x2 8) <|
        mt_call (fX3_become fu σ ((c + 2) + 2 + Int32.toNatClampNeg x2) ((a1 + 2) + 2 + Int32.toNatClampNeg x2)) fun _ s4 =>
        bX4_become_65 fu c a1 n s4 (x2 + 1)
set_option maxHeartbeats 4000000 in
set_option maxRecDepth 20000 in
theorem vX4_become_65 {K : mt_C} {fu : Nat} {c : Nat} {a1 : Nat} {r : Unit} {σf : mt_St} (hc : mt_kd c = 4) (ha1 : mt_kd a1 = 4) (hQ : mt_R K none none σf) : ∀ (n : Nat) (σ : mt_St) (x2 : Int32), mt_V K cX4_become RX4 3 1 σ 65 [(0, .ref (mt_adr (kG K) c)), (1, .ref (mt_adr (kG K) a1)), (2, .int x2)] [] (bX4_become_65 fu c a1 n σ x2 = some (r, σf)) := by
  intro n
  induction n with
  | zero => intro σ x2; intro hP; unfold bX4_become_65 at hP; cases hP
  | succ n ih =>
    intro σ x2
    unfold bX4_become_65
    refine mv_iload_n 2 dX4_become_65 rfl rfl ?_
    refine mv_aload_n 0 dX4_become_66 rfl rfl ?_
    refine mg_X4_7 hc fl_X4_37 dX4_become_67 ?_
    refine mv_icmp_ge 100 dX4_become_70 (by decide) ?_ ?_
    · refine mv_sub (lv' := [(0, .ref (mt_adr (kG K) c)), (1, .ref (mt_adr (kG K) a1))]) [0, 1] rfl ?_
      exact vX4_become_100 hc ha1 hQ σ
    · refine mv_iload_n 2 dX4_become_73 rfl rfl ?_
      refine mv_bipush (v := 8) dX4_become_74 bp_8 ?_
      refine mv_icmp_ge 100 dX4_become_76 (by decide) ?_ ?_
      · refine mv_sub (lv' := [(0, .ref (mt_adr (kG K) c)), (1, .ref (mt_adr (kG K) a1))]) [0, 1] rfl ?_
        exact vX4_become_100 hc ha1 hQ σ
      · refine mv_aload_n 0 dX4_become_79 rfl rfl ?_
        refine mg_X4_6 hc fl_X4_33 dX4_become_80 ?_
        refine mv_iload_n 2 dX4_become_83 rfl rfl ?_
        refine mv_aaldT (kd_w2 hc) (ln_w2 hc) dX4_become_84 (fun h1 => ?_)
        refine mv_aload_n 1 dX4_become_85 rfl rfl ?_
        refine mg_X4_6 ha1 fl_X4_33 dX4_become_86 ?_
        refine mv_iload_n 2 dX4_become_89 rfl rfl ?_
        refine mv_aaldT (kd_w2 ha1) (ln_w2 ha1) dX4_become_90 (fun h2 => ?_)
        refine mv_cVwv (As := [.ref (mt_adr (kG K) ((a1 + 2) + 2 + Int32.toNatClampNeg x2))]) (st := []) cal_X3_become ins_X3_become ml_X4_50 (kd_tr (kd_w2 hc) h1) (by decide) rfl rfl (by decide) rfl (Nat.le_of_ble_eq_true rfl) dX4_become_91 (fun r s h => co_X3_become (kd_tr (kd_w2 hc) h1) (kd_tr (kd_w2 ha1) h2) h) (fun r3 s4 => ?_)
        refine mv_iinc (k0 := 2) (v := x2 + 1) (lv' := [(0, .ref (mt_adr (kG K) c)), (1, .ref (mt_adr (kG K) a1)), (2, .int (x2 + 1))]) [1, 2, 0] dX4_become_94 rfl (mt_inc ic_1) (by decide) rfl ?_
        refine mv_goto 65 dX4_become_97 (by decide) ?_
        exact ih s4 (x2 + 1)
def fX4_become (fu : Nat) (σ : mt_St) (c : Nat) (a1 : Nat) : Option (Unit × mt_St) :=
  mt_bnd (mt_up σ c 0 (σ a1 0)) fun s1 =>
  mt_bnd (mt_up s1 c 1 (s1 a1 1)) fun s2 =>
  mt_chk (mt_cpok (0 : Int32) (0 : Int32) (6 : Int32) 6 6) <|
  mt_bnd (mt_row s2 (c + 1) (va_cpy (s2 (a1 + 1)) (s2 (c + 1)) (Int32.toNatClampNeg (0 : Int32)) (Int32.toNatClampNeg (0 : Int32)) (Int32.toNatClampNeg (6 : Int32)))) fun s4 =>
  mt_bnd (mt_up s4 c 3 (s4 a1 3)) fun s5 =>
  mt_bnd (mt_up s5 c 4 (s5 a1 4)) fun s6 =>
  mt_bnd (mt_up s6 c 5 (s6 a1 5)) fun s7 =>
  mt_bnd (mt_up s7 c 7 (s7 a1 7)) fun s8 =>
  bX4_become_65 fu c a1 fu s8 (0 : Int32)
set_option maxHeartbeats 4000000 in
set_option maxRecDepth 20000 in
theorem vX4_become {K : mt_C} {fu : Nat} {σ : mt_St} {c : Nat} {a1 : Nat} {r : Unit} {σf : mt_St} (hc : mt_kd c = 4) (ha1 : mt_kd a1 = 4) (hQ : mt_R K none none σf) : mt_V K cX4_become RX4 3 1 σ 0 [(0, .ref (mt_adr (kG K) c)), (1, .ref (mt_adr (kG K) a1))] [] (fX4_become fu σ c a1 = some (r, σf)) := by
  unfold fX4_become
  refine mv_aload_n 0 dX4_become_0 rfl rfl ?_
  refine mv_aload_n 1 dX4_become_1 rfl rfl ?_
  refine mg_X4_0 ha1 fl_X4_9 dX4_become_2 ?_
  refine mp_X4_0 hc fl_X4_9 dX4_become_5 (fun s1 => ?_)
  refine mv_aload_n 0 dX4_become_8 rfl rfl ?_
  refine mv_aload_n 1 dX4_become_9 rfl rfl ?_
  refine mg_X4_1 ha1 fl_X4_15 dX4_become_10 ?_
  refine mp_X4_1 hc fl_X4_15 dX4_become_13 (fun s2 => ?_)
  refine mv_aload_n 1 dX4_become_16 rfl rfl ?_
  refine mg_X4_2 ha1 fl_X4_18 dX4_become_17 ?_
  refine mv_iconst (v := 0) dX4_become_20 ic_0 ?_
  refine mv_aload_n 0 dX4_become_21 rfl rfl ?_
  refine mg_X4_2 hc fl_X4_18 dX4_become_22 ?_
  refine mv_iconst (v := 0) dX4_become_25 ic_0 ?_
  refine mv_bipush (v := 6) dX4_become_26 bp_6 ?_
  refine mv_acopy 6 6 (kd_w1 ha1) (ln_w1 ha1) (kd_w1 hc) (ln_w1 hc) ml_X4_44 (by decide) (Nat.le_of_ble_eq_true rfl) dX4_become_28 (fun s4 => ?_)
  refine mv_aload_n 0 dX4_become_31 rfl rfl ?_
  refine mv_aload_n 1 dX4_become_32 rfl rfl ?_
  refine mg_X4_3 ha1 fl_X4_22 dX4_become_33 ?_
  refine mp_X4_3 hc fl_X4_22 dX4_become_36 (fun s5 => ?_)
  refine mv_aload_n 0 dX4_become_39 rfl rfl ?_
  refine mv_aload_n 1 dX4_become_40 rfl rfl ?_
  refine mg_X4_4 ha1 fl_X4_25 dX4_become_41 ?_
  refine mp_X4_4 hc fl_X4_25 dX4_become_44 (fun s6 => ?_)
  refine mv_aload_n 0 dX4_become_47 rfl rfl ?_
  refine mv_aload_n 1 dX4_become_48 rfl rfl ?_
  refine mg_X4_5 ha1 fl_X4_28 dX4_become_49 ?_
  refine mp_X4_5 hc fl_X4_28 dX4_become_52 (fun s7 => ?_)
  refine mv_aload_n 0 dX4_become_55 rfl rfl ?_
  refine mv_aload_n 1 dX4_become_56 rfl rfl ?_
  refine mg_X4_7 ha1 fl_X4_37 dX4_become_57 ?_
  refine mp_X4_7 hc fl_X4_37 dX4_become_60 (fun s8 => ?_)
  refine mv_iconst (v := 0) dX4_become_63 ic_0 ?_
  refine mv_istore_n (lv' := [(0, .ref (mt_adr (kG K) c)), (1, .ref (mt_adr (kG K) a1)), (2, .int (0 : Int32))]) [1, 2, 0] dX4_become_64 rfl (by decide) rfl ?_
  exact vX4_become_65 hc ha1 hQ fu s8 (0 : Int32)
theorem co_X4_become {l : Launch} {G : mt_G} {fu : Nat} {σ : mt_St} {c : Nat} {a1 : Nat} {r : Unit} {σf : mt_St} (hc : mt_kd c = 4) (ha1 : mt_kd a1 = 4) (h : fX4_become fu σ c a1 = some (r, σf)) : mt_Con l G yX4_become cX4_become 3 none 1 [.ref (mt_adr G c), .ref (mt_adr G a1)] σ none σf :=
  mt_con (by decide) (Nat.le_of_ble_eq_true rfl) (fun K hl hG hQ => by subst hl; subst hG; exact fun _ => vX4_become hc ha1 hQ h)
theorem dX4_draw_0 : decode cX4_draw 0 = .ok (.aload_n 0, 1) := by decide +kernel
theorem dX4_draw_1 : decode cX4_draw 1 = .ok (.aload_n 0, 1) := by decide +kernel
theorem dX4_draw_2 : decode cX4_draw 2 = .ok (.getfield 28, 3) := by decide +kernel
theorem dX4_draw_5 : decode cX4_draw 5 = .ok (.ldc 58, 2) := by decide +kernel
theorem dX4_draw_7 : decode cX4_draw 7 = .ok (.imul, 1) := by decide +kernel
theorem dX4_draw_8 : decode cX4_draw 8 = .ok (.sipush 12345, 3) := by decide +kernel
theorem dX4_draw_11 : decode cX4_draw 11 = .ok (.iadd, 1) := by decide +kernel
theorem dX4_draw_12 : decode cX4_draw 12 = .ok (.putfield 28, 3) := by decide +kernel
theorem dX4_draw_15 : decode cX4_draw 15 = .ok (.aload_n 0, 1) := by decide +kernel
theorem dX4_draw_16 : decode cX4_draw 16 = .ok (.getfield 28, 3) := by decide +kernel
theorem dX4_draw_19 : decode cX4_draw 19 = .ok (.bipush 8, 2) := by decide +kernel
theorem dX4_draw_21 : decode cX4_draw 21 = .ok (.iushr, 1) := by decide +kernel
theorem dX4_draw_22 : decode cX4_draw 22 = .ok (.ireturn, 1) := by decide +kernel
def fX4_draw (fu : Nat) (σ : mt_St) (c : Nat) : Option (Int32 × mt_St) :=
  mt_bnd (mt_up σ c 5 (((σ c 5) * (1103515245 : Int32)) + (12345 : Int32))) fun s1 =>
  some (((Int32.toUInt32 (s1 c 5) >>> (Int32.toUInt32 (8 : Int32) &&& Int32.toUInt32 31)).toInt32), s1)
set_option maxHeartbeats 4000000 in
set_option maxRecDepth 20000 in
theorem vX4_draw {K : mt_C} {fu : Nat} {σ : mt_St} {c : Nat} {r : Int32} {σf : mt_St} (hc : mt_kd c = 4) (hQ : mt_R K (some .int) (some (.int r)) σf) : mt_V K cX4_draw RX4 1 0 σ 0 [(0, .ref (mt_adr (kG K) c))] [] (fX4_draw fu σ c = some (r, σf)) := by
  unfold fX4_draw
  refine mv_aload_n 0 dX4_draw_0 rfl rfl ?_
  refine mv_aload_n 0 dX4_draw_1 rfl rfl ?_
  refine mg_X4_5 hc fl_X4_28 dX4_draw_2 ?_
  refine mv_ldc kc_X4_58 dX4_draw_5 ?_
  refine mv_imul dX4_draw_7 ?_
  refine mv_sipush (v := 12345) dX4_draw_8 sp_12345 ?_
  refine mv_iadd dX4_draw_11 ?_
  refine mp_X4_5 hc fl_X4_28 dX4_draw_12 (fun s1 => ?_)
  refine mv_aload_n 0 dX4_draw_15 rfl rfl ?_
  refine mg_X4_5 hc fl_X4_28 dX4_draw_16 ?_
  refine mv_bipush (v := 8) dX4_draw_19 bp_8 ?_
  refine mv_iushr dX4_draw_21 ?_
  exact mv_iret hQ dX4_draw_22
theorem co_X4_draw {l : Launch} {G : mt_G} {fu : Nat} {σ : mt_St} {c : Nat} {r : Int32} {σf : mt_St} (hc : mt_kd c = 4) (h : fX4_draw fu σ c = some (r, σf)) : mt_Con l G yX4_draw cX4_draw 1 (some .int) 0 [.ref (mt_adr G c)] σ (some (.int r)) σf :=
  mt_con (by decide) (Nat.le_of_ble_eq_true rfl) (fun K hl hG hQ => by subst hl; subst hG; exact fun _ => vX4_draw hc hQ h)
theorem dX5_toggled_0 : decode cX5_toggled 0 = .ok (.iload_n 1, 1) := by decide +kernel
theorem dX5_toggled_1 : decode cX5_toggled 1 = .ok (.bipush 12, 2) := by decide +kernel
theorem dX5_toggled_3 : decode cX5_toggled 3 = .ok (.if_icmp .ge 11, 3) := by decide +kernel
theorem dX5_toggled_6 : decode cX5_toggled 6 = .ok (.iload_n 0, 1) := by decide +kernel
theorem dX5_toggled_7 : decode cX5_toggled 7 = .ok (.iconst 1, 1) := by decide +kernel
theorem dX5_toggled_8 : decode cX5_toggled 8 = .ok (.iload_n 1, 1) := by decide +kernel
theorem dX5_toggled_9 : decode cX5_toggled 9 = .ok (.ishl, 1) := by decide +kernel
theorem dX5_toggled_10 : decode cX5_toggled 10 = .ok (.ixor, 1) := by decide +kernel
theorem dX5_toggled_11 : decode cX5_toggled 11 = .ok (.goto 4, 3) := by decide +kernel
theorem dX5_toggled_14 : decode cX5_toggled 14 = .ok (.iload_n 0, 1) := by decide +kernel
theorem dX5_toggled_15 : decode cX5_toggled 15 = .ok (.ireturn, 1) := by decide +kernel
def bX5_toggled_15 (fu : Nat) (y0 : Int32) : Option Int32 :=
  some y0
set_option maxHeartbeats 4000000 in
set_option maxRecDepth 20000 in
theorem vX5_toggled_15 {K : mt_C} {fu : Nat} {σ : mt_St} {r : Int32} (hQ : mt_R K (some .int) (some (.int r)) σ) : ∀ (y0 : Int32), mt_V K cX5_toggled RX5 2 0 σ 15 [] [.int y0] (bX5_toggled_15 fu y0 = some r) := by
  intro y0
  unfold bX5_toggled_15
  exact mv_iretr hQ dX5_toggled_15
def fX5_toggled (fu : Nat) (a1 : Int32) (a2 : Int32) : Option Int32 :=
  if (12 : Int32) ≤ a2 then
    bX5_toggled_15 fu a1
  else
    bX5_toggled_15 fu (a1 ^^^ ((1 : Int32) <<< (a2 &&& 31)))
set_option maxHeartbeats 4000000 in
set_option maxRecDepth 20000 in
theorem vX5_toggled {K : mt_C} {fu : Nat} {σ : mt_St} {a1 : Int32} {a2 : Int32} {r : Int32} (hQ : mt_R K (some .int) (some (.int r)) σ) : mt_V K cX5_toggled RX5 2 0 σ 0 [(0, .int a1), (1, .int a2)] [] (fX5_toggled fu a1 a2 = some r) := by
  unfold fX5_toggled
  refine mv_iload_n 1 dX5_toggled_0 rfl rfl ?_
  refine mv_bipush (v := 12) dX5_toggled_1 bp_12 ?_
  refine mv_icmp_ge 14 dX5_toggled_3 (by decide) ?_ ?_
  · refine mv_iload_n 0 dX5_toggled_14 rfl rfl ?_
    refine mv_sub (lv' := []) [] rfl ?_
    exact vX5_toggled_15 hQ a1
  · refine mv_iload_n 0 dX5_toggled_6 rfl rfl ?_
    refine mv_iconst (v := 1) dX5_toggled_7 ic_1 ?_
    refine mv_iload_n 1 dX5_toggled_8 rfl rfl ?_
    refine mv_ishl dX5_toggled_9 ?_
    refine mv_ixor dX5_toggled_10 ?_
    refine mv_goto 15 dX5_toggled_11 (by decide) ?_
    refine mv_sub (lv' := []) [] rfl ?_
    exact vX5_toggled_15 hQ (a1 ^^^ ((1 : Int32) <<< (a2 &&& 31)))
theorem co_X5_toggled {l : Launch} {G : mt_G} {fu : Nat} {σ : mt_St} {a1 : Int32} {a2 : Int32} {r : Int32}  (h : fX5_toggled fu a1 a2 = some r) : mt_Con l G yX5_toggled cX5_toggled 2 (some .int) 0 [.int a1, .int a2] σ (some (.int r)) σ :=
  mt_con (by decide) (Nat.le_of_ble_eq_true rfl) (fun K hl hG hQ => by subst hl; subst hG; exact fun _ => vX5_toggled  hQ h)
theorem dX4_pass_0 : decode cX4_pass 0 = .ok (.aload_n 0, 1) := by decide +kernel
theorem dX4_pass_1 : decode cX4_pass 1 = .ok (.aload_n 0, 1) := by decide +kernel
theorem dX4_pass_2 : decode cX4_pass 2 = .ok (.getfield 15, 3) := by decide +kernel
theorem dX4_pass_5 : decode cX4_pass 5 = .ok (.aload_n 0, 1) := by decide +kernel
theorem dX4_pass_6 : decode cX4_pass 6 = .ok (.getfield 18, 3) := by decide +kernel
theorem dX4_pass_9 : decode cX4_pass 9 = .ok (.aload_n 0, 1) := by decide +kernel
theorem dX4_pass_10 : decode cX4_pass 10 = .ok (.getfield 25, 3) := by decide +kernel
theorem dX4_pass_13 : decode cX4_pass 13 = .ok (.bipush 6, 2) := by decide +kernel
theorem dX4_pass_15 : decode cX4_pass 15 = .ok (.irem, 1) := by decide +kernel
theorem dX4_pass_16 : decode cX4_pass 16 = .ok (.iaload, 1) := by decide +kernel
theorem dX4_pass_17 : decode cX4_pass 17 = .ok (.invokestatic 62, 3) := by decide +kernel
theorem dX4_pass_20 : decode cX4_pass 20 = .ok (.putfield 15, 3) := by decide +kernel
theorem dX4_pass_23 : decode cX4_pass 23 = .ok (.iconst 0, 1) := by decide +kernel
theorem dX4_pass_24 : decode cX4_pass 24 = .ok (.istore_n 1, 1) := by decide +kernel
theorem dX4_pass_25 : decode cX4_pass 25 = .ok (.iload_n 1, 1) := by decide +kernel
theorem dX4_pass_26 : decode cX4_pass 26 = .ok (.aload_n 0, 1) := by decide +kernel
theorem dX4_pass_27 : decode cX4_pass 27 = .ok (.getfield 37, 3) := by decide +kernel
theorem dX4_pass_30 : decode cX4_pass 30 = .ok (.if_icmp .ge 40, 3) := by decide +kernel
theorem dX4_pass_33 : decode cX4_pass 33 = .ok (.aload_n 0, 1) := by decide +kernel
theorem dX4_pass_34 : decode cX4_pass 34 = .ok (.aload_n 0, 1) := by decide +kernel
theorem dX4_pass_35 : decode cX4_pass 35 = .ok (.getfield 22, 3) := by decide +kernel
theorem dX4_pass_38 : decode cX4_pass 38 = .ok (.aload_n 0, 1) := by decide +kernel
theorem dX4_pass_39 : decode cX4_pass 39 = .ok (.getfield 33, 3) := by decide +kernel
theorem dX4_pass_42 : decode cX4_pass 42 = .ok (.iload_n 1, 1) := by decide +kernel
theorem dX4_pass_43 : decode cX4_pass 43 = .ok (.aaload, 1) := by decide +kernel
theorem dX4_pass_44 : decode cX4_pass 44 = .ok (.aload_n 0, 1) := by decide +kernel
theorem dX4_pass_45 : decode cX4_pass 45 = .ok (.getfield 15, 3) := by decide +kernel
theorem dX4_pass_48 : decode cX4_pass 48 = .ok (.aload_n 0, 1) := by decide +kernel
theorem dX4_pass_49 : decode cX4_pass 49 = .ok (.getfield 9, 3) := by decide +kernel
theorem dX4_pass_52 : decode cX4_pass 52 = .ok (.invokevirtual 66, 3) := by decide +kernel
theorem dX4_pass_55 : decode cX4_pass 55 = .ok (.iadd, 1) := by decide +kernel
theorem dX4_pass_56 : decode cX4_pass 56 = .ok (.ldc 69, 2) := by decide +kernel
theorem dX4_pass_58 : decode cX4_pass 58 = .ok (.invokestatic 70, 3) := by decide +kernel
theorem dX4_pass_61 : decode cX4_pass 61 = .ok (.putfield 22, 3) := by decide +kernel
theorem dX4_pass_64 : decode cX4_pass 64 = .ok (.iinc 1 1, 3) := by decide +kernel
theorem dX4_pass_67 : decode cX4_pass 67 = .ok (.goto (-42), 3) := by decide +kernel
theorem dX4_pass_70 : decode cX4_pass 70 = .ok (.aload_n 0, 1) := by decide +kernel
theorem dX4_pass_71 : decode cX4_pass 71 = .ok (.aload_n 0, 1) := by decide +kernel
theorem dX4_pass_72 : decode cX4_pass 72 = .ok (.getfield 25, 3) := by decide +kernel
theorem dX4_pass_75 : decode cX4_pass 75 = .ok (.iconst 1, 1) := by decide +kernel
theorem dX4_pass_76 : decode cX4_pass 76 = .ok (.iadd, 1) := by decide +kernel
theorem dX4_pass_77 : decode cX4_pass 77 = .ok (.ldc 69, 2) := by decide +kernel
theorem dX4_pass_79 : decode cX4_pass 79 = .ok (.invokestatic 70, 3) := by decide +kernel
theorem dX4_pass_82 : decode cX4_pass 82 = .ok (.putfield 25, 3) := by decide +kernel
theorem dX4_pass_85 : decode cX4_pass 85 = .ok (.return_, 1) := by decide +kernel
def bX4_pass_25 (fu : Nat) (c : Nat) : Nat → mt_St → Int32 → Option (Unit × mt_St)
  | 0, _, _ => none
  | n + 1, σ, x1 =>
    if (σ c 7) ≤ x1 then
      mt_bnd (mt_up σ c 4 (mt_min ((σ c 4) + (1 : Int32)) (99999 : Int32))) fun s2 =>
      some ((), s2)
    else
      mt_chk (mt_in x1 8) <|
      mt_call (fX3_live fu σ ((c + 2) + 2 + Int32.toNatClampNeg x1) (σ c 1) (σ c 0)) fun r4 s5 =>
      mt_bnd (mt_up s5 c 3 (mt_min ((σ c 3) + r4) (99999 : Int32))) fun s7 =>
      bX4_pass_25 fu c n s7 (x1 + 1)
set_option maxHeartbeats 4000000 in
set_option maxRecDepth 20000 in
theorem vX4_pass_25 {K : mt_C} {fu : Nat} {c : Nat} {r : Unit} {σf : mt_St} (hc : mt_kd c = 4) (hQ : mt_R K none none σf) : ∀ (n : Nat) (σ : mt_St) (x1 : Int32), mt_V K cX4_pass RX4 2 4 σ 25 [(0, .ref (mt_adr (kG K) c)), (1, .int x1)] [] (bX4_pass_25 fu c n σ x1 = some (r, σf)) := by
  intro n
  induction n with
  | zero => intro σ x1; intro hP; unfold bX4_pass_25 at hP; cases hP
  | succ n ih =>
    intro σ x1
    unfold bX4_pass_25
    refine mv_iload_n 1 dX4_pass_25 rfl rfl ?_
    refine mv_aload_n 0 dX4_pass_26 rfl rfl ?_
    refine mg_X4_7 hc fl_X4_37 dX4_pass_27 ?_
    refine mv_icmp_ge 70 dX4_pass_30 (by decide) ?_ ?_
    · refine mv_aload_n 0 dX4_pass_70 rfl rfl ?_
      refine mv_aload_n 0 dX4_pass_71 rfl rfl ?_
      refine mg_X4_4 hc fl_X4_25 dX4_pass_72 ?_
      refine mv_iconst (v := 1) dX4_pass_75 ic_1 ?_
      refine mv_iadd dX4_pass_76 ?_
      refine mv_ldc kc_X4_69 dX4_pass_77 ?_
      refine mv_mmin mm_X4_70 (by decide) (Nat.le_of_ble_eq_true rfl) dX4_pass_79 ?_
      refine mp_X4_4 hc fl_X4_25 dX4_pass_82 (fun s2 => ?_)
      exact mv_vret hQ dX4_pass_85
    · refine mv_aload_n 0 dX4_pass_33 rfl rfl ?_
      refine mv_aload_n 0 dX4_pass_34 rfl rfl ?_
      refine mg_X4_3 hc fl_X4_22 dX4_pass_35 ?_
      refine mv_aload_n 0 dX4_pass_38 rfl rfl ?_
      refine mg_X4_6 hc fl_X4_33 dX4_pass_39 ?_
      refine mv_iload_n 1 dX4_pass_42 rfl rfl ?_
      refine mv_aaldT (kd_w2 hc) (ln_w2 hc) dX4_pass_43 (fun h3 => ?_)
      refine mv_aload_n 0 dX4_pass_44 rfl rfl ?_
      refine mg_X4_1 hc fl_X4_15 dX4_pass_45 ?_
      refine mv_aload_n 0 dX4_pass_48 rfl rfl ?_
      refine mg_X4_0 hc fl_X4_9 dX4_pass_49 ?_
      refine mv_cVwi (As := [.int (σ c 1), .int (σ c 0)]) (st := [.int (σ c 3), .ref (mt_adr (kG K) c)]) cal_X3_live ins_X3_live ml_X4_66 (kd_tr (kd_w2 hc) h3) (by decide) rfl rfl (by decide) rfl (Nat.le_of_ble_eq_true rfl) dX4_pass_52 (fun r s h => co_X3_live (kd_tr (kd_w2 hc) h3) h) (fun r4 s5 => ?_)
      refine mv_iadd dX4_pass_55 ?_
      refine mv_ldc kc_X4_69 dX4_pass_56 ?_
      refine mv_mmin mm_X4_70 (by decide) (Nat.le_of_ble_eq_true rfl) dX4_pass_58 ?_
      refine mp_X4_3 hc fl_X4_22 dX4_pass_61 (fun s7 => ?_)
      refine mv_iinc (k0 := 1) (v := x1 + 1) (lv' := [(0, .ref (mt_adr (kG K) c)), (1, .int (x1 + 1))]) [1, 0] dX4_pass_64 rfl (mt_inc ic_1) (by decide) rfl ?_
      refine mv_goto 25 dX4_pass_67 (by decide) ?_
      exact ih s7 (x1 + 1)
def fX4_pass (fu : Nat) (σ : mt_St) (c : Nat) : Option (Unit × mt_St) :=
  mt_chk (mt_in ((σ c 4) - (σ c 4) / (6 : Int32) * (6 : Int32)) 6) <|
  mt_ask (fX5_toggled fu (σ c 1) (σ (c + 1) (Int32.toNatClampNeg ((σ c 4) - (σ c 4) / (6 : Int32) * (6 : Int32))))) fun r1 =>
  mt_bnd (mt_up σ c 1 r1) fun s2 =>
  bX4_pass_25 fu c fu s2 (0 : Int32)
set_option maxHeartbeats 4000000 in
set_option maxRecDepth 20000 in
theorem vX4_pass {K : mt_C} {fu : Nat} {σ : mt_St} {c : Nat} {r : Unit} {σf : mt_St} (hc : mt_kd c = 4) (hQ : mt_R K none none σf) : mt_V K cX4_pass RX4 2 4 σ 0 [(0, .ref (mt_adr (kG K) c))] [] (fX4_pass fu σ c = some (r, σf)) := by
  unfold fX4_pass
  refine mv_aload_n 0 dX4_pass_0 rfl rfl ?_
  refine mv_aload_n 0 dX4_pass_1 rfl rfl ?_
  refine mg_X4_1 hc fl_X4_15 dX4_pass_2 ?_
  refine mv_aload_n 0 dX4_pass_5 rfl rfl ?_
  refine mg_X4_2 hc fl_X4_18 dX4_pass_6 ?_
  refine mv_aload_n 0 dX4_pass_9 rfl rfl ?_
  refine mg_X4_4 hc fl_X4_25 dX4_pass_10 ?_
  refine mv_bipush (v := 6) dX4_pass_13 bp_6 ?_
  refine mv_irem dX4_pass_15 (by decide) ?_
  refine mv_iald 6 (kd_w1 hc) (ln_w1 hc) dX4_pass_16 ?_
  refine mv_cSri (As := [.int (σ c 1), .int (σ (c + 1) (Int32.toNatClampNeg ((σ c 4) - (σ c 4) / (6 : Int32) * (6 : Int32))))]) (st := [.ref (mt_adr (kG K) c)]) cal_X5_toggled sta_X5_toggled ml_X4_62 rfl (by decide) rfl (Nat.le_of_ble_eq_true rfl) dX4_pass_17 (fun r h => co_X5_toggled h) (fun r1 => ?_)
  refine mp_X4_1 hc fl_X4_15 dX4_pass_20 (fun s2 => ?_)
  refine mv_iconst (v := 0) dX4_pass_23 ic_0 ?_
  refine mv_istore_n (lv' := [(0, .ref (mt_adr (kG K) c)), (1, .int (0 : Int32))]) [1, 0] dX4_pass_24 rfl (by decide) rfl ?_
  exact vX4_pass_25 hc hQ fu s2 (0 : Int32)
theorem co_X4_pass {l : Launch} {G : mt_G} {fu : Nat} {σ : mt_St} {c : Nat} {r : Unit} {σf : mt_St} (hc : mt_kd c = 4) (h : fX4_pass fu σ c = some (r, σf)) : mt_Con l G yX4_pass cX4_pass 2 none 4 [.ref (mt_adr G c)] σ none σf :=
  mt_con (by decide) (Nat.le_of_ble_eq_true rfl) (fun K hl hG hQ => by subst hl; subst hG; exact fun _ => vX4_pass hc hQ h)
theorem dX4_passYears_0 : decode cX4_passYears 0 = .ok (.iconst 0, 1) := by decide +kernel
theorem dX4_passYears_1 : decode cX4_passYears 1 = .ok (.istore_n 2, 1) := by decide +kernel
theorem dX4_passYears_2 : decode cX4_passYears 2 = .ok (.iload_n 2, 1) := by decide +kernel
theorem dX4_passYears_3 : decode cX4_passYears 3 = .ok (.iload_n 1, 1) := by decide +kernel
theorem dX4_passYears_4 : decode cX4_passYears 4 = .ok (.if_icmp .ge 13, 3) := by decide +kernel
theorem dX4_passYears_7 : decode cX4_passYears 7 = .ok (.aload_n 0, 1) := by decide +kernel
theorem dX4_passYears_8 : decode cX4_passYears 8 = .ok (.invokevirtual 59, 3) := by decide +kernel
theorem dX4_passYears_11 : decode cX4_passYears 11 = .ok (.iinc 2 1, 3) := by decide +kernel
theorem dX4_passYears_14 : decode cX4_passYears 14 = .ok (.goto (-12), 3) := by decide +kernel
theorem dX4_passYears_17 : decode cX4_passYears 17 = .ok (.return_, 1) := by decide +kernel
def bX4_passYears_2 (fu : Nat) (c : Nat) : Nat → mt_St → Int32 → Int32 → Option (Unit × mt_St)
  | 0, _, _, _ => none
  | n + 1, σ, x1, x2 =>
    if x1 ≤ x2 then
      some ((), σ)
    else
      mt_call (fX4_pass fu σ c) fun _ s2 =>
      bX4_passYears_2 fu c n s2 x1 (x2 + 1)
set_option maxHeartbeats 4000000 in
set_option maxRecDepth 20000 in
theorem vX4_passYears_2 {K : mt_C} {fu : Nat} {c : Nat} {r : Unit} {σf : mt_St} (hc : mt_kd c = 4) (hQ : mt_R K none none σf) : ∀ (n : Nat) (σ : mt_St) (x1 : Int32) (x2 : Int32), mt_V K cX4_passYears RX4 3 5 σ 2 [(0, .ref (mt_adr (kG K) c)), (1, .int x1), (2, .int x2)] [] (bX4_passYears_2 fu c n σ x1 x2 = some (r, σf)) := by
  intro n
  induction n with
  | zero => intro σ x1 x2; intro hP; unfold bX4_passYears_2 at hP; cases hP
  | succ n ih =>
    intro σ x1 x2
    unfold bX4_passYears_2
    refine mv_iload_n 2 dX4_passYears_2 rfl rfl ?_
    refine mv_iload_n 1 dX4_passYears_3 rfl rfl ?_
    refine mv_icmp_ge 17 dX4_passYears_4 (by decide) ?_ ?_
    · exact mv_vret hQ dX4_passYears_17
    · refine mv_aload_n 0 dX4_passYears_7 rfl rfl ?_
      refine mv_cVwv (As := []) (st := []) cal_X4_pass ins_X4_pass ml_X4_59 hc (by decide) rfl rfl (by decide) rfl (Nat.le_of_ble_eq_true rfl) dX4_passYears_8 (fun r s h => co_X4_pass hc h) (fun r1 s2 => ?_)
      refine mv_iinc (k0 := 2) (v := x2 + 1) (lv' := [(0, .ref (mt_adr (kG K) c)), (1, .int x1), (2, .int (x2 + 1))]) [1, 2, 0] dX4_passYears_11 rfl (mt_inc ic_1) (by decide) rfl ?_
      refine mv_goto 2 dX4_passYears_14 (by decide) ?_
      exact ih s2 x1 (x2 + 1)
def fX4_passYears (fu : Nat) (σ : mt_St) (c : Nat) (a1 : Int32) : Option (Unit × mt_St) :=
  bX4_passYears_2 fu c fu σ a1 (0 : Int32)
set_option maxHeartbeats 4000000 in
set_option maxRecDepth 20000 in
theorem vX4_passYears {K : mt_C} {fu : Nat} {σ : mt_St} {c : Nat} {a1 : Int32} {r : Unit} {σf : mt_St} (hc : mt_kd c = 4) (hQ : mt_R K none none σf) : mt_V K cX4_passYears RX4 3 5 σ 0 [(0, .ref (mt_adr (kG K) c)), (1, .int a1)] [] (fX4_passYears fu σ c a1 = some (r, σf)) := by
  unfold fX4_passYears
  refine mv_iconst (v := 0) dX4_passYears_0 ic_0 ?_
  refine mv_istore_n (lv' := [(0, .ref (mt_adr (kG K) c)), (1, .int a1), (2, .int (0 : Int32))]) [1, 2, 0] dX4_passYears_1 rfl (by decide) rfl ?_
  exact vX4_passYears_2 hc hQ fu σ a1 (0 : Int32)
theorem co_X4_passYears {l : Launch} {G : mt_G} {fu : Nat} {σ : mt_St} {c : Nat} {a1 : Int32} {r : Unit} {σf : mt_St} (hc : mt_kd c = 4) (h : fX4_passYears fu σ c a1 = some (r, σf)) : mt_Con l G yX4_passYears cX4_passYears 3 none 5 [.ref (mt_adr G c), .int a1] σ none σf :=
  mt_con (by decide) (Nat.le_of_ble_eq_true rfl) (fun K hl hG hQ => by subst hl; subst hG; exact fun _ => vX4_passYears hc hQ h)
theorem dX4_inForce_0 : decode cX4_inForce 0 = .ok (.iconst 0, 1) := by decide +kernel
theorem dX4_inForce_1 : decode cX4_inForce 1 = .ok (.istore_n 1, 1) := by decide +kernel
theorem dX4_inForce_2 : decode cX4_inForce 2 = .ok (.iconst 0, 1) := by decide +kernel
theorem dX4_inForce_3 : decode cX4_inForce 3 = .ok (.istore_n 2, 1) := by decide +kernel
theorem dX4_inForce_4 : decode cX4_inForce 4 = .ok (.iload_n 2, 1) := by decide +kernel
theorem dX4_inForce_5 : decode cX4_inForce 5 = .ok (.aload_n 0, 1) := by decide +kernel
theorem dX4_inForce_6 : decode cX4_inForce 6 = .ok (.getfield 37, 3) := by decide +kernel
theorem dX4_inForce_9 : decode cX4_inForce 9 = .ok (.if_icmp .ge 23, 3) := by decide +kernel
theorem dX4_inForce_12 : decode cX4_inForce 12 = .ok (.iload_n 1, 1) := by decide +kernel
theorem dX4_inForce_13 : decode cX4_inForce 13 = .ok (.aload_n 0, 1) := by decide +kernel
theorem dX4_inForce_14 : decode cX4_inForce 14 = .ok (.getfield 33, 3) := by decide +kernel
theorem dX4_inForce_17 : decode cX4_inForce 17 = .ok (.iload_n 2, 1) := by decide +kernel
theorem dX4_inForce_18 : decode cX4_inForce 18 = .ok (.aaload, 1) := by decide +kernel
theorem dX4_inForce_19 : decode cX4_inForce 19 = .ok (.getfield 75, 3) := by decide +kernel
theorem dX4_inForce_22 : decode cX4_inForce 22 = .ok (.iload_n 2, 1) := by decide +kernel
theorem dX4_inForce_23 : decode cX4_inForce 23 = .ok (.ishl, 1) := by decide +kernel
theorem dX4_inForce_24 : decode cX4_inForce 24 = .ok (.ior, 1) := by decide +kernel
theorem dX4_inForce_25 : decode cX4_inForce 25 = .ok (.istore_n 1, 1) := by decide +kernel
theorem dX4_inForce_26 : decode cX4_inForce 26 = .ok (.iinc 2 1, 3) := by decide +kernel
theorem dX4_inForce_29 : decode cX4_inForce 29 = .ok (.goto (-25), 3) := by decide +kernel
theorem dX4_inForce_32 : decode cX4_inForce 32 = .ok (.iload_n 1, 1) := by decide +kernel
theorem dX4_inForce_33 : decode cX4_inForce 33 = .ok (.ireturn, 1) := by decide +kernel
def bX4_inForce_4 (fu : Nat) (c : Nat) (σ : mt_St) : Nat → Int32 → Int32 → Option Int32
  | 0, _, _ => none
  | n + 1, x1, x2 =>
    if (σ c 7) ≤ x2 then
      some x1
    else
      mt_chk (mt_in x2 8) <|
      bX4_inForce_4 fu c σ n (x1 ||| ((σ ((c + 2) + 2 + Int32.toNatClampNeg x2) 4) <<< (x2 &&& 31))) (x2 + 1)
set_option maxHeartbeats 4000000 in
set_option maxRecDepth 20000 in
theorem vX4_inForce_4 {K : mt_C} {fu : Nat} {c : Nat} {σ : mt_St} {r : Int32} (hc : mt_kd c = 4) (hQ : mt_R K (some .int) (some (.int r)) σ) : ∀ (n : Nat) (x1 : Int32) (x2 : Int32), mt_V K cX4_inForce RX4 3 0 σ 4 [(0, .ref (mt_adr (kG K) c)), (1, .int x1), (2, .int x2)] [] (bX4_inForce_4 fu c σ n x1 x2 = some r) := by
  intro n
  induction n with
  | zero => intro x1 x2; intro hP; unfold bX4_inForce_4 at hP; cases hP
  | succ n ih =>
    intro x1 x2
    unfold bX4_inForce_4
    refine mv_iload_n 2 dX4_inForce_4 rfl rfl ?_
    refine mv_aload_n 0 dX4_inForce_5 rfl rfl ?_
    refine mg_X4_7 hc fl_X4_37 dX4_inForce_6 ?_
    refine mv_icmp_ge 32 dX4_inForce_9 (by decide) ?_ ?_
    · refine mv_iload_n 1 dX4_inForce_32 rfl rfl ?_
      exact mv_iretr hQ dX4_inForce_33
    · refine mv_iload_n 1 dX4_inForce_12 rfl rfl ?_
      refine mv_aload_n 0 dX4_inForce_13 rfl rfl ?_
      refine mg_X4_6 hc fl_X4_33 dX4_inForce_14 ?_
      refine mv_iload_n 2 dX4_inForce_17 rfl rfl ?_
      refine mv_aaldT (kd_w2 hc) (ln_w2 hc) dX4_inForce_18 (fun h1 => ?_)
      refine mg_X3_4 (kd_tr (kd_w2 hc) h1) fl_X4_75 dX4_inForce_19 ?_
      refine mv_iload_n 2 dX4_inForce_22 rfl rfl ?_
      refine mv_ishl dX4_inForce_23 ?_
      refine mv_ior dX4_inForce_24 ?_
      refine mv_istore_n (lv' := [(0, .ref (mt_adr (kG K) c)), (1, .int (x1 ||| ((σ ((c + 2) + 2 + Int32.toNatClampNeg x2) 4) <<< (x2 &&& 31)))), (2, .int x2)]) [1, 0, 2] dX4_inForce_25 rfl (by decide) rfl ?_
      refine mv_iinc (k0 := 2) (v := x2 + 1) (lv' := [(0, .ref (mt_adr (kG K) c)), (1, .int (x1 ||| ((σ ((c + 2) + 2 + Int32.toNatClampNeg x2) 4) <<< (x2 &&& 31)))), (2, .int (x2 + 1))]) [1, 2, 0] dX4_inForce_26 rfl (mt_inc ic_1) (by decide) rfl ?_
      refine mv_goto 4 dX4_inForce_29 (by decide) ?_
      exact ih (x1 ||| ((σ ((c + 2) + 2 + Int32.toNatClampNeg x2) 4) <<< (x2 &&& 31))) (x2 + 1)
def fX4_inForce (fu : Nat) (σ : mt_St) (c : Nat) : Option Int32 :=
  bX4_inForce_4 fu c σ fu (0 : Int32) (0 : Int32)
set_option maxHeartbeats 4000000 in
set_option maxRecDepth 20000 in
theorem vX4_inForce {K : mt_C} {fu : Nat} {σ : mt_St} {c : Nat} {r : Int32} (hc : mt_kd c = 4) (hQ : mt_R K (some .int) (some (.int r)) σ) : mt_V K cX4_inForce RX4 3 0 σ 0 [(0, .ref (mt_adr (kG K) c))] [] (fX4_inForce fu σ c = some r) := by
  unfold fX4_inForce
  refine mv_iconst (v := 0) dX4_inForce_0 ic_0 ?_
  refine mv_istore_n (lv' := [(0, .ref (mt_adr (kG K) c)), (1, .int (0 : Int32))]) [1, 0] dX4_inForce_1 rfl (by decide) rfl ?_
  refine mv_iconst (v := 0) dX4_inForce_2 ic_0 ?_
  refine mv_istore_n (lv' := [(0, .ref (mt_adr (kG K) c)), (1, .int (0 : Int32)), (2, .int (0 : Int32))]) [1, 2, 0] dX4_inForce_3 rfl (by decide) rfl ?_
  exact vX4_inForce_4 hc hQ fu (0 : Int32) (0 : Int32)
theorem co_X4_inForce {l : Launch} {G : mt_G} {fu : Nat} {σ : mt_St} {c : Nat} {r : Int32} (hc : mt_kd c = 4) (h : fX4_inForce fu σ c = some r) : mt_Con l G yX4_inForce cX4_inForce 3 (some .int) 0 [.ref (mt_adr G c)] σ (some (.int r)) σ :=
  mt_con (by decide) (Nat.le_of_ble_eq_true rfl) (fun K hl hG hQ => by subst hl; subst hG; exact fun _ => vX4_inForce hc hQ h)
theorem dX4_breaking_0 : decode cX4_breaking 0 = .ok (.iconst 0, 1) := by decide +kernel
theorem dX4_breaking_1 : decode cX4_breaking 1 = .ok (.istore_n 1, 1) := by decide +kernel
theorem dX4_breaking_2 : decode cX4_breaking 2 = .ok (.iconst 0, 1) := by decide +kernel
theorem dX4_breaking_3 : decode cX4_breaking 3 = .ok (.istore_n 2, 1) := by decide +kernel
theorem dX4_breaking_4 : decode cX4_breaking 4 = .ok (.iload_n 2, 1) := by decide +kernel
theorem dX4_breaking_5 : decode cX4_breaking 5 = .ok (.aload_n 0, 1) := by decide +kernel
theorem dX4_breaking_6 : decode cX4_breaking 6 = .ok (.getfield 37, 3) := by decide +kernel
theorem dX4_breaking_9 : decode cX4_breaking 9 = .ok (.if_icmp .ge 44, 3) := by decide +kernel
theorem dX4_breaking_12 : decode cX4_breaking 12 = .ok (.aload_n 0, 1) := by decide +kernel
theorem dX4_breaking_13 : decode cX4_breaking 13 = .ok (.getfield 33, 3) := by decide +kernel
theorem dX4_breaking_16 : decode cX4_breaking 16 = .ok (.iload_n 2, 1) := by decide +kernel
theorem dX4_breaking_17 : decode cX4_breaking 17 = .ok (.aaload, 1) := by decide +kernel
theorem dX4_breaking_18 : decode cX4_breaking 18 = .ok (.getfield 75, 3) := by decide +kernel
theorem dX4_breaking_21 : decode cX4_breaking 21 = .ok (.iconst 1, 1) := by decide +kernel
theorem dX4_breaking_22 : decode cX4_breaking 22 = .ok (.if_icmp .ne 25, 3) := by decide +kernel
theorem dX4_breaking_25 : decode cX4_breaking 25 = .ok (.aload_n 0, 1) := by decide +kernel
theorem dX4_breaking_26 : decode cX4_breaking 26 = .ok (.getfield 33, 3) := by decide +kernel
theorem dX4_breaking_29 : decode cX4_breaking 29 = .ok (.iload_n 2, 1) := by decide +kernel
theorem dX4_breaking_30 : decode cX4_breaking 30 = .ok (.aaload, 1) := by decide +kernel
theorem dX4_breaking_31 : decode cX4_breaking 31 = .ok (.aload_n 0, 1) := by decide +kernel
theorem dX4_breaking_32 : decode cX4_breaking 32 = .ok (.getfield 15, 3) := by decide +kernel
theorem dX4_breaking_35 : decode cX4_breaking 35 = .ok (.invokevirtual 78, 3) := by decide +kernel
theorem dX4_breaking_38 : decode cX4_breaking 38 = .ok (.ifCond .eq 9, 3) := by decide +kernel
theorem dX4_breaking_41 : decode cX4_breaking 41 = .ok (.iload_n 1, 1) := by decide +kernel
theorem dX4_breaking_42 : decode cX4_breaking 42 = .ok (.iconst 1, 1) := by decide +kernel
theorem dX4_breaking_43 : decode cX4_breaking 43 = .ok (.iload_n 2, 1) := by decide +kernel
theorem dX4_breaking_44 : decode cX4_breaking 44 = .ok (.ishl, 1) := by decide +kernel
theorem dX4_breaking_45 : decode cX4_breaking 45 = .ok (.ior, 1) := by decide +kernel
theorem dX4_breaking_46 : decode cX4_breaking 46 = .ok (.istore_n 1, 1) := by decide +kernel
theorem dX4_breaking_47 : decode cX4_breaking 47 = .ok (.iinc 2 1, 3) := by decide +kernel
theorem dX4_breaking_50 : decode cX4_breaking 50 = .ok (.goto (-46), 3) := by decide +kernel
theorem dX4_breaking_53 : decode cX4_breaking 53 = .ok (.iload_n 1, 1) := by decide +kernel
theorem dX4_breaking_54 : decode cX4_breaking 54 = .ok (.ireturn, 1) := by decide +kernel
def bX4_breaking_47 (fu : Nat) (c : Nat) (σ : mt_St) (k4 : Int32 → Int32 → Option Int32) (x1 : Int32) (x2 : Int32) : Option Int32 :=
  k4 x1 (x2 + 1)
set_option maxHeartbeats 4000000 in
set_option maxRecDepth 20000 in
theorem vX4_breaking_47 {K : mt_C} {fu : Nat} {c : Nat} {σ : mt_St} {r : Int32} (hc : mt_kd c = 4) (hQ : mt_R K (some .int) (some (.int r)) σ) {k4 : Int32 → Int32 → Option Int32} (hk4 : ∀ (x1 : Int32) (x2 : Int32), mt_V K cX4_breaking RX4 3 2 σ 4 [(0, .ref (mt_adr (kG K) c)), (1, .int x1), (2, .int x2)] [] (k4 x1 x2 = some r)) : ∀ (x1 : Int32) (x2 : Int32), mt_V K cX4_breaking RX4 3 2 σ 47 [(0, .ref (mt_adr (kG K) c)), (1, .int x1), (2, .int x2)] [] (bX4_breaking_47 fu c σ k4 x1 x2 = some r) := by
  intro x1 x2
  unfold bX4_breaking_47
  refine mv_iinc (k0 := 2) (v := x2 + 1) (lv' := [(0, .ref (mt_adr (kG K) c)), (1, .int x1), (2, .int (x2 + 1))]) [1, 2, 0] dX4_breaking_47 rfl (mt_inc ic_1) (by decide) rfl ?_
  refine mv_goto 4 dX4_breaking_50 (by decide) ?_
  exact hk4 x1 (x2 + 1)
def bX4_breaking_4 (fu : Nat) (c : Nat) (σ : mt_St) : Nat → Int32 → Int32 → Option Int32
  | 0, _, _ => none
  | n + 1, x1, x2 =>
    if (σ c 7) ≤ x2 then
      some x1
    else
      mt_chk (mt_in x2 8) <|
      if (σ ((c + 2) + 2 + Int32.toNatClampNeg x2) 4) = (1 : Int32) then
        mt_chk (mt_in x2 8) <|
        mt_ask (fX3_isOverborne fu σ ((c + 2) + 2 + Int32.toNatClampNeg x2) (σ c 1)) fun r3 =>
        if r3 = 0 then
          bX4_breaking_47 fu c σ (fun x1 x2 => bX4_breaking_4 fu c σ n x1 x2) x1 x2
        else
          bX4_breaking_47 fu c σ (fun x1 x2 => bX4_breaking_4 fu c σ n x1 x2) (x1 ||| ((1 : Int32) <<< (x2 &&& 31))) x2
      else
        bX4_breaking_47 fu c σ (fun x1 x2 => bX4_breaking_4 fu c σ n x1 x2) x1 x2
set_option maxHeartbeats 4000000 in
set_option maxRecDepth 20000 in
theorem vX4_breaking_4 {K : mt_C} {fu : Nat} {c : Nat} {σ : mt_St} {r : Int32} (hc : mt_kd c = 4) (hQ : mt_R K (some .int) (some (.int r)) σ) : ∀ (n : Nat) (x1 : Int32) (x2 : Int32), mt_V K cX4_breaking RX4 3 2 σ 4 [(0, .ref (mt_adr (kG K) c)), (1, .int x1), (2, .int x2)] [] (bX4_breaking_4 fu c σ n x1 x2 = some r) := by
  intro n
  induction n with
  | zero => intro x1 x2; intro hP; unfold bX4_breaking_4 at hP; cases hP
  | succ n ih =>
    intro x1 x2
    unfold bX4_breaking_4
    refine mv_iload_n 2 dX4_breaking_4 rfl rfl ?_
    refine mv_aload_n 0 dX4_breaking_5 rfl rfl ?_
    refine mg_X4_7 hc fl_X4_37 dX4_breaking_6 ?_
    refine mv_icmp_ge 53 dX4_breaking_9 (by decide) ?_ ?_
    · refine mv_iload_n 1 dX4_breaking_53 rfl rfl ?_
      exact mv_iretr hQ dX4_breaking_54
    · refine mv_aload_n 0 dX4_breaking_12 rfl rfl ?_
      refine mg_X4_6 hc fl_X4_33 dX4_breaking_13 ?_
      refine mv_iload_n 2 dX4_breaking_16 rfl rfl ?_
      refine mv_aaldT (kd_w2 hc) (ln_w2 hc) dX4_breaking_17 (fun h1 => ?_)
      refine mg_X3_4 (kd_tr (kd_w2 hc) h1) fl_X4_75 dX4_breaking_18 ?_
      refine mv_iconst (v := 1) dX4_breaking_21 ic_1 ?_
      refine mv_icmp_ne 47 dX4_breaking_22 (by decide) ?_ ?_
      · exact vX4_breaking_47 hc hQ (fun x1 x2 => ih x1 x2) x1 x2
      · refine mv_aload_n 0 dX4_breaking_25 rfl rfl ?_
        refine mg_X4_6 hc fl_X4_33 dX4_breaking_26 ?_
        refine mv_iload_n 2 dX4_breaking_29 rfl rfl ?_
        refine mv_aaldT (kd_w2 hc) (ln_w2 hc) dX4_breaking_30 (fun h2 => ?_)
        refine mv_aload_n 0 dX4_breaking_31 rfl rfl ?_
        refine mg_X4_1 hc fl_X4_15 dX4_breaking_32 ?_
        refine mv_cVri (As := [.int (σ c 1)]) (st := []) cal_X3_isOverborne ins_X3_isOverborne ml_X4_78 (kd_tr (kd_w2 hc) h2) (by decide) rfl rfl (by decide) rfl (Nat.le_of_ble_eq_true rfl) dX4_breaking_35 (fun r h => co_X3_isOverborne (kd_tr (kd_w2 hc) h2) h) (fun r3 => ?_)
        refine mv_if_eq 47 dX4_breaking_38 (by decide) ?_ ?_
        · exact vX4_breaking_47 hc hQ (fun x1 x2 => ih x1 x2) x1 x2
        · refine mv_iload_n 1 dX4_breaking_41 rfl rfl ?_
          refine mv_iconst (v := 1) dX4_breaking_42 ic_1 ?_
          refine mv_iload_n 2 dX4_breaking_43 rfl rfl ?_
          refine mv_ishl dX4_breaking_44 ?_
          refine mv_ior dX4_breaking_45 ?_
          refine mv_istore_n (lv' := [(0, .ref (mt_adr (kG K) c)), (1, .int (x1 ||| ((1 : Int32) <<< (x2 &&& 31)))), (2, .int x2)]) [1, 0, 2] dX4_breaking_46 rfl (by decide) rfl ?_
          exact vX4_breaking_47 hc hQ (fun x1 x2 => ih x1 x2) (x1 ||| ((1 : Int32) <<< (x2 &&& 31))) x2
def fX4_breaking (fu : Nat) (σ : mt_St) (c : Nat) : Option Int32 :=
  bX4_breaking_4 fu c σ fu (0 : Int32) (0 : Int32)
set_option maxHeartbeats 4000000 in
set_option maxRecDepth 20000 in
theorem vX4_breaking {K : mt_C} {fu : Nat} {σ : mt_St} {c : Nat} {r : Int32} (hc : mt_kd c = 4) (hQ : mt_R K (some .int) (some (.int r)) σ) : mt_V K cX4_breaking RX4 3 2 σ 0 [(0, .ref (mt_adr (kG K) c))] [] (fX4_breaking fu σ c = some r) := by
  unfold fX4_breaking
  refine mv_iconst (v := 0) dX4_breaking_0 ic_0 ?_
  refine mv_istore_n (lv' := [(0, .ref (mt_adr (kG K) c)), (1, .int (0 : Int32))]) [1, 0] dX4_breaking_1 rfl (by decide) rfl ?_
  refine mv_iconst (v := 0) dX4_breaking_2 ic_0 ?_
  refine mv_istore_n (lv' := [(0, .ref (mt_adr (kG K) c)), (1, .int (0 : Int32)), (2, .int (0 : Int32))]) [1, 2, 0] dX4_breaking_3 rfl (by decide) rfl ?_
  exact vX4_breaking_4 hc hQ fu (0 : Int32) (0 : Int32)
theorem co_X4_breaking {l : Launch} {G : mt_G} {fu : Nat} {σ : mt_St} {c : Nat} {r : Int32} (hc : mt_kd c = 4) (h : fX4_breaking fu σ c = some r) : mt_Con l G yX4_breaking cX4_breaking 3 (some .int) 2 [.ref (mt_adr G c)] σ (some (.int r)) σ :=
  mt_con (by decide) (Nat.le_of_ble_eq_true rfl) (fun K hl hG hQ => by subst hl; subst hG; exact fun _ => vX4_breaking hc hQ h)
theorem dX4_marksInForce_0 : decode cX4_marksInForce 0 = .ok (.iconst 0, 1) := by decide +kernel
theorem dX4_marksInForce_1 : decode cX4_marksInForce 1 = .ok (.istore_n 1, 1) := by decide +kernel
theorem dX4_marksInForce_2 : decode cX4_marksInForce 2 = .ok (.iconst 0, 1) := by decide +kernel
theorem dX4_marksInForce_3 : decode cX4_marksInForce 3 = .ok (.istore_n 2, 1) := by decide +kernel
theorem dX4_marksInForce_4 : decode cX4_marksInForce 4 = .ok (.iload_n 2, 1) := by decide +kernel
theorem dX4_marksInForce_5 : decode cX4_marksInForce 5 = .ok (.aload_n 0, 1) := by decide +kernel
theorem dX4_marksInForce_6 : decode cX4_marksInForce 6 = .ok (.getfield 37, 3) := by decide +kernel
theorem dX4_marksInForce_9 : decode cX4_marksInForce 9 = .ok (.if_icmp .ge 34, 3) := by decide +kernel
theorem dX4_marksInForce_12 : decode cX4_marksInForce 12 = .ok (.aload_n 0, 1) := by decide +kernel
theorem dX4_marksInForce_13 : decode cX4_marksInForce 13 = .ok (.getfield 33, 3) := by decide +kernel
theorem dX4_marksInForce_16 : decode cX4_marksInForce 16 = .ok (.iload_n 2, 1) := by decide +kernel
theorem dX4_marksInForce_17 : decode cX4_marksInForce 17 = .ok (.aaload, 1) := by decide +kernel
theorem dX4_marksInForce_18 : decode cX4_marksInForce 18 = .ok (.getfield 75, 3) := by decide +kernel
theorem dX4_marksInForce_21 : decode cX4_marksInForce 21 = .ok (.iconst 1, 1) := by decide +kernel
theorem dX4_marksInForce_22 : decode cX4_marksInForce 22 = .ok (.if_icmp .ne 15, 3) := by decide +kernel
theorem dX4_marksInForce_25 : decode cX4_marksInForce 25 = .ok (.iload_n 1, 1) := by decide +kernel
theorem dX4_marksInForce_26 : decode cX4_marksInForce 26 = .ok (.aload_n 0, 1) := by decide +kernel
theorem dX4_marksInForce_27 : decode cX4_marksInForce 27 = .ok (.getfield 33, 3) := by decide +kernel
theorem dX4_marksInForce_30 : decode cX4_marksInForce 30 = .ok (.iload_n 2, 1) := by decide +kernel
theorem dX4_marksInForce_31 : decode cX4_marksInForce 31 = .ok (.aaload, 1) := by decide +kernel
theorem dX4_marksInForce_32 : decode cX4_marksInForce 32 = .ok (.getfield 82, 3) := by decide +kernel
theorem dX4_marksInForce_35 : decode cX4_marksInForce 35 = .ok (.ior, 1) := by decide +kernel
theorem dX4_marksInForce_36 : decode cX4_marksInForce 36 = .ok (.istore_n 1, 1) := by decide +kernel
theorem dX4_marksInForce_37 : decode cX4_marksInForce 37 = .ok (.iinc 2 1, 3) := by decide +kernel
theorem dX4_marksInForce_40 : decode cX4_marksInForce 40 = .ok (.goto (-36), 3) := by decide +kernel
theorem dX4_marksInForce_43 : decode cX4_marksInForce 43 = .ok (.iload_n 1, 1) := by decide +kernel
theorem dX4_marksInForce_44 : decode cX4_marksInForce 44 = .ok (.ireturn, 1) := by decide +kernel
def bX4_marksInForce_37 (fu : Nat) (c : Nat) (σ : mt_St) (k4 : Int32 → Int32 → Option Int32) (x1 : Int32) (x2 : Int32) : Option Int32 :=
  k4 x1 (x2 + 1)
set_option maxHeartbeats 4000000 in
set_option maxRecDepth 20000 in
theorem vX4_marksInForce_37 {K : mt_C} {fu : Nat} {c : Nat} {σ : mt_St} {r : Int32} (hc : mt_kd c = 4) (hQ : mt_R K (some .int) (some (.int r)) σ) {k4 : Int32 → Int32 → Option Int32} (hk4 : ∀ (x1 : Int32) (x2 : Int32), mt_V K cX4_marksInForce RX4 3 0 σ 4 [(0, .ref (mt_adr (kG K) c)), (1, .int x1), (2, .int x2)] [] (k4 x1 x2 = some r)) : ∀ (x1 : Int32) (x2 : Int32), mt_V K cX4_marksInForce RX4 3 0 σ 37 [(0, .ref (mt_adr (kG K) c)), (1, .int x1), (2, .int x2)] [] (bX4_marksInForce_37 fu c σ k4 x1 x2 = some r) := by
  intro x1 x2
  unfold bX4_marksInForce_37
  refine mv_iinc (k0 := 2) (v := x2 + 1) (lv' := [(0, .ref (mt_adr (kG K) c)), (1, .int x1), (2, .int (x2 + 1))]) [1, 2, 0] dX4_marksInForce_37 rfl (mt_inc ic_1) (by decide) rfl ?_
  refine mv_goto 4 dX4_marksInForce_40 (by decide) ?_
  exact hk4 x1 (x2 + 1)
def bX4_marksInForce_4 (fu : Nat) (c : Nat) (σ : mt_St) : Nat → Int32 → Int32 → Option Int32
  | 0, _, _ => none
  | n + 1, x1, x2 =>
    if (σ c 7) ≤ x2 then
      some x1
    else
      mt_chk (mt_in x2 8) <|
      if (σ ((c + 2) + 2 + Int32.toNatClampNeg x2) 4) = (1 : Int32) then
        mt_chk (mt_in x2 8) <|
        bX4_marksInForce_37 fu c σ (fun x1 x2 => bX4_marksInForce_4 fu c σ n x1 x2) (x1 ||| (σ ((c + 2) + 2 + Int32.toNatClampNeg x2) 3)) x2
      else
        bX4_marksInForce_37 fu c σ (fun x1 x2 => bX4_marksInForce_4 fu c σ n x1 x2) x1 x2
set_option maxHeartbeats 4000000 in
set_option maxRecDepth 20000 in
theorem vX4_marksInForce_4 {K : mt_C} {fu : Nat} {c : Nat} {σ : mt_St} {r : Int32} (hc : mt_kd c = 4) (hQ : mt_R K (some .int) (some (.int r)) σ) : ∀ (n : Nat) (x1 : Int32) (x2 : Int32), mt_V K cX4_marksInForce RX4 3 0 σ 4 [(0, .ref (mt_adr (kG K) c)), (1, .int x1), (2, .int x2)] [] (bX4_marksInForce_4 fu c σ n x1 x2 = some r) := by
  intro n
  induction n with
  | zero => intro x1 x2; intro hP; unfold bX4_marksInForce_4 at hP; cases hP
  | succ n ih =>
    intro x1 x2
    unfold bX4_marksInForce_4
    refine mv_iload_n 2 dX4_marksInForce_4 rfl rfl ?_
    refine mv_aload_n 0 dX4_marksInForce_5 rfl rfl ?_
    refine mg_X4_7 hc fl_X4_37 dX4_marksInForce_6 ?_
    refine mv_icmp_ge 43 dX4_marksInForce_9 (by decide) ?_ ?_
    · refine mv_iload_n 1 dX4_marksInForce_43 rfl rfl ?_
      exact mv_iretr hQ dX4_marksInForce_44
    · refine mv_aload_n 0 dX4_marksInForce_12 rfl rfl ?_
      refine mg_X4_6 hc fl_X4_33 dX4_marksInForce_13 ?_
      refine mv_iload_n 2 dX4_marksInForce_16 rfl rfl ?_
      refine mv_aaldT (kd_w2 hc) (ln_w2 hc) dX4_marksInForce_17 (fun h1 => ?_)
      refine mg_X3_4 (kd_tr (kd_w2 hc) h1) fl_X4_75 dX4_marksInForce_18 ?_
      refine mv_iconst (v := 1) dX4_marksInForce_21 ic_1 ?_
      refine mv_icmp_ne 37 dX4_marksInForce_22 (by decide) ?_ ?_
      · exact vX4_marksInForce_37 hc hQ (fun x1 x2 => ih x1 x2) x1 x2
      · refine mv_iload_n 1 dX4_marksInForce_25 rfl rfl ?_
        refine mv_aload_n 0 dX4_marksInForce_26 rfl rfl ?_
        refine mg_X4_6 hc fl_X4_33 dX4_marksInForce_27 ?_
        refine mv_iload_n 2 dX4_marksInForce_30 rfl rfl ?_
        refine mv_aaldT (kd_w2 hc) (ln_w2 hc) dX4_marksInForce_31 (fun h2 => ?_)
        refine mg_X3_3 (kd_tr (kd_w2 hc) h2) fl_X4_82 dX4_marksInForce_32 ?_
        refine mv_ior dX4_marksInForce_35 ?_
        refine mv_istore_n (lv' := [(0, .ref (mt_adr (kG K) c)), (1, .int (x1 ||| (σ ((c + 2) + 2 + Int32.toNatClampNeg x2) 3))), (2, .int x2)]) [1, 0, 2] dX4_marksInForce_36 rfl (by decide) rfl ?_
        exact vX4_marksInForce_37 hc hQ (fun x1 x2 => ih x1 x2) (x1 ||| (σ ((c + 2) + 2 + Int32.toNatClampNeg x2) 3)) x2
def fX4_marksInForce (fu : Nat) (σ : mt_St) (c : Nat) : Option Int32 :=
  bX4_marksInForce_4 fu c σ fu (0 : Int32) (0 : Int32)
set_option maxHeartbeats 4000000 in
set_option maxRecDepth 20000 in
theorem vX4_marksInForce {K : mt_C} {fu : Nat} {σ : mt_St} {c : Nat} {r : Int32} (hc : mt_kd c = 4) (hQ : mt_R K (some .int) (some (.int r)) σ) : mt_V K cX4_marksInForce RX4 3 0 σ 0 [(0, .ref (mt_adr (kG K) c))] [] (fX4_marksInForce fu σ c = some r) := by
  unfold fX4_marksInForce
  refine mv_iconst (v := 0) dX4_marksInForce_0 ic_0 ?_
  refine mv_istore_n (lv' := [(0, .ref (mt_adr (kG K) c)), (1, .int (0 : Int32))]) [1, 0] dX4_marksInForce_1 rfl (by decide) rfl ?_
  refine mv_iconst (v := 0) dX4_marksInForce_2 ic_0 ?_
  refine mv_istore_n (lv' := [(0, .ref (mt_adr (kG K) c)), (1, .int (0 : Int32)), (2, .int (0 : Int32))]) [1, 2, 0] dX4_marksInForce_3 rfl (by decide) rfl ?_
  exact vX4_marksInForce_4 hc hQ fu (0 : Int32) (0 : Int32)
theorem co_X4_marksInForce {l : Launch} {G : mt_G} {fu : Nat} {σ : mt_St} {c : Nat} {r : Int32} (hc : mt_kd c = 4) (h : fX4_marksInForce fu σ c = some r) : mt_Con l G yX4_marksInForce cX4_marksInForce 3 (some .int) 0 [.ref (mt_adr G c)] σ (some (.int r)) σ :=
  mt_con (by decide) (Nat.le_of_ble_eq_true rfl) (fun K hl hG hQ => by subst hl; subst hG; exact fun _ => vX4_marksInForce hc hQ h)
theorem dX4_longestHeld_0 : decode cX4_longestHeld 0 = .ok (.iconst (-1), 1) := by decide +kernel
theorem dX4_longestHeld_1 : decode cX4_longestHeld 1 = .ok (.istore_n 1, 1) := by decide +kernel
theorem dX4_longestHeld_2 : decode cX4_longestHeld 2 = .ok (.iconst (-1), 1) := by decide +kernel
theorem dX4_longestHeld_3 : decode cX4_longestHeld 3 = .ok (.istore_n 2, 1) := by decide +kernel
theorem dX4_longestHeld_4 : decode cX4_longestHeld 4 = .ok (.iconst 0, 1) := by decide +kernel
theorem dX4_longestHeld_5 : decode cX4_longestHeld 5 = .ok (.istore_n 3, 1) := by decide +kernel
theorem dX4_longestHeld_6 : decode cX4_longestHeld 6 = .ok (.iload_n 3, 1) := by decide +kernel
theorem dX4_longestHeld_7 : decode cX4_longestHeld 7 = .ok (.aload_n 0, 1) := by decide +kernel
theorem dX4_longestHeld_8 : decode cX4_longestHeld 8 = .ok (.getfield 37, 3) := by decide +kernel
theorem dX4_longestHeld_11 : decode cX4_longestHeld 11 = .ok (.if_icmp .ge 47, 3) := by decide +kernel
theorem dX4_longestHeld_14 : decode cX4_longestHeld 14 = .ok (.aload_n 0, 1) := by decide +kernel
theorem dX4_longestHeld_15 : decode cX4_longestHeld 15 = .ok (.getfield 33, 3) := by decide +kernel
theorem dX4_longestHeld_18 : decode cX4_longestHeld 18 = .ok (.iload_n 3, 1) := by decide +kernel
theorem dX4_longestHeld_19 : decode cX4_longestHeld 19 = .ok (.aaload, 1) := by decide +kernel
theorem dX4_longestHeld_20 : decode cX4_longestHeld 20 = .ok (.getfield 75, 3) := by decide +kernel
theorem dX4_longestHeld_23 : decode cX4_longestHeld 23 = .ok (.iconst 1, 1) := by decide +kernel
theorem dX4_longestHeld_24 : decode cX4_longestHeld 24 = .ok (.if_icmp .ne 28, 3) := by decide +kernel
theorem dX4_longestHeld_27 : decode cX4_longestHeld 27 = .ok (.aload_n 0, 1) := by decide +kernel
theorem dX4_longestHeld_28 : decode cX4_longestHeld 28 = .ok (.getfield 33, 3) := by decide +kernel
theorem dX4_longestHeld_31 : decode cX4_longestHeld 31 = .ok (.iload_n 3, 1) := by decide +kernel
theorem dX4_longestHeld_32 : decode cX4_longestHeld 32 = .ok (.aaload, 1) := by decide +kernel
theorem dX4_longestHeld_33 : decode cX4_longestHeld 33 = .ok (.getfield 85, 3) := by decide +kernel
theorem dX4_longestHeld_36 : decode cX4_longestHeld 36 = .ok (.iload_n 2, 1) := by decide +kernel
theorem dX4_longestHeld_37 : decode cX4_longestHeld 37 = .ok (.if_icmp .le 15, 3) := by decide +kernel
theorem dX4_longestHeld_40 : decode cX4_longestHeld 40 = .ok (.aload_n 0, 1) := by decide +kernel
theorem dX4_longestHeld_41 : decode cX4_longestHeld 41 = .ok (.getfield 33, 3) := by decide +kernel
theorem dX4_longestHeld_44 : decode cX4_longestHeld 44 = .ok (.iload_n 3, 1) := by decide +kernel
theorem dX4_longestHeld_45 : decode cX4_longestHeld 45 = .ok (.aaload, 1) := by decide +kernel
theorem dX4_longestHeld_46 : decode cX4_longestHeld 46 = .ok (.getfield 85, 3) := by decide +kernel
theorem dX4_longestHeld_49 : decode cX4_longestHeld 49 = .ok (.istore_n 2, 1) := by decide +kernel
theorem dX4_longestHeld_50 : decode cX4_longestHeld 50 = .ok (.iload_n 3, 1) := by decide +kernel
theorem dX4_longestHeld_51 : decode cX4_longestHeld 51 = .ok (.istore_n 1, 1) := by decide +kernel
theorem dX4_longestHeld_52 : decode cX4_longestHeld 52 = .ok (.iinc 3 1, 3) := by decide +kernel
theorem dX4_longestHeld_55 : decode cX4_longestHeld 55 = .ok (.goto (-49), 3) := by decide +kernel
theorem dX4_longestHeld_58 : decode cX4_longestHeld 58 = .ok (.iload_n 1, 1) := by decide +kernel
theorem dX4_longestHeld_59 : decode cX4_longestHeld 59 = .ok (.ireturn, 1) := by decide +kernel
def bX4_longestHeld_52 (fu : Nat) (c : Nat) (σ : mt_St) (k6 : Int32 → Int32 → Int32 → Option Int32) (x1 : Int32) (x2 : Int32) (x3 : Int32) : Option Int32 :=
  k6 x1 x2 (x3 + 1)
set_option maxHeartbeats 4000000 in
set_option maxRecDepth 20000 in
theorem vX4_longestHeld_52 {K : mt_C} {fu : Nat} {c : Nat} {σ : mt_St} {r : Int32} (hc : mt_kd c = 4) (hQ : mt_R K (some .int) (some (.int r)) σ) {k6 : Int32 → Int32 → Int32 → Option Int32} (hk6 : ∀ (x1 : Int32) (x2 : Int32) (x3 : Int32), mt_V K cX4_longestHeld RX4 4 0 σ 6 [(0, .ref (mt_adr (kG K) c)), (1, .int x1), (2, .int x2), (3, .int x3)] [] (k6 x1 x2 x3 = some r)) : ∀ (x1 : Int32) (x2 : Int32) (x3 : Int32), mt_V K cX4_longestHeld RX4 4 0 σ 52 [(0, .ref (mt_adr (kG K) c)), (1, .int x1), (2, .int x2), (3, .int x3)] [] (bX4_longestHeld_52 fu c σ k6 x1 x2 x3 = some r) := by
  intro x1 x2 x3
  unfold bX4_longestHeld_52
  refine mv_iinc (k0 := 3) (v := x3 + 1) (lv' := [(0, .ref (mt_adr (kG K) c)), (1, .int x1), (2, .int x2), (3, .int (x3 + 1))]) [1, 2, 3, 0] dX4_longestHeld_52 rfl (mt_inc ic_1) (by decide) rfl ?_
  refine mv_goto 6 dX4_longestHeld_55 (by decide) ?_
  exact hk6 x1 x2 (x3 + 1)
def bX4_longestHeld_6 (fu : Nat) (c : Nat) (σ : mt_St) : Nat → Int32 → Int32 → Int32 → Option Int32
  | 0, _, _, _ => none
  | n + 1, x1, x2, x3 =>
    if (σ c 7) ≤ x3 then
      some x1
    else
      mt_chk (mt_in x3 8) <|
      if (σ ((c + 2) + 2 + Int32.toNatClampNeg x3) 4) = (1 : Int32) then
        mt_chk (mt_in x3 8) <|
        if (σ ((c + 2) + 2 + Int32.toNatClampNeg x3) 5) ≤ x2 then
          bX4_longestHeld_52 fu c σ (fun x1 x2 x3 => bX4_longestHeld_6 fu c σ n x1 x2 x3) x1 x2 x3
        else
          mt_chk (mt_in x3 8) <|
          bX4_longestHeld_52 fu c σ (fun x1 x2 x3 => bX4_longestHeld_6 fu c σ n x1 x2 x3) x3 (σ ((c + 2) + 2 + Int32.toNatClampNeg x3) 5) x3
      else
        bX4_longestHeld_52 fu c σ (fun x1 x2 x3 => bX4_longestHeld_6 fu c σ n x1 x2 x3) x1 x2 x3
set_option maxHeartbeats 4000000 in
set_option maxRecDepth 20000 in
theorem vX4_longestHeld_6 {K : mt_C} {fu : Nat} {c : Nat} {σ : mt_St} {r : Int32} (hc : mt_kd c = 4) (hQ : mt_R K (some .int) (some (.int r)) σ) : ∀ (n : Nat) (x1 : Int32) (x2 : Int32) (x3 : Int32), mt_V K cX4_longestHeld RX4 4 0 σ 6 [(0, .ref (mt_adr (kG K) c)), (1, .int x1), (2, .int x2), (3, .int x3)] [] (bX4_longestHeld_6 fu c σ n x1 x2 x3 = some r) := by
  intro n
  induction n with
  | zero => intro x1 x2 x3; intro hP; unfold bX4_longestHeld_6 at hP; cases hP
  | succ n ih =>
    intro x1 x2 x3
    unfold bX4_longestHeld_6
    refine mv_iload_n 3 dX4_longestHeld_6 rfl rfl ?_
    refine mv_aload_n 0 dX4_longestHeld_7 rfl rfl ?_
    refine mg_X4_7 hc fl_X4_37 dX4_longestHeld_8 ?_
    refine mv_icmp_ge 58 dX4_longestHeld_11 (by decide) ?_ ?_
    · refine mv_iload_n 1 dX4_longestHeld_58 rfl rfl ?_
      exact mv_iretr hQ dX4_longestHeld_59
    · refine mv_aload_n 0 dX4_longestHeld_14 rfl rfl ?_
      refine mg_X4_6 hc fl_X4_33 dX4_longestHeld_15 ?_
      refine mv_iload_n 3 dX4_longestHeld_18 rfl rfl ?_
      refine mv_aaldT (kd_w2 hc) (ln_w2 hc) dX4_longestHeld_19 (fun h1 => ?_)
      refine mg_X3_4 (kd_tr (kd_w2 hc) h1) fl_X4_75 dX4_longestHeld_20 ?_
      refine mv_iconst (v := 1) dX4_longestHeld_23 ic_1 ?_
      refine mv_icmp_ne 52 dX4_longestHeld_24 (by decide) ?_ ?_
      · exact vX4_longestHeld_52 hc hQ (fun x1 x2 x3 => ih x1 x2 x3) x1 x2 x3
      · refine mv_aload_n 0 dX4_longestHeld_27 rfl rfl ?_
        refine mg_X4_6 hc fl_X4_33 dX4_longestHeld_28 ?_
        refine mv_iload_n 3 dX4_longestHeld_31 rfl rfl ?_
        refine mv_aaldT (kd_w2 hc) (ln_w2 hc) dX4_longestHeld_32 (fun h2 => ?_)
        refine mg_X3_5 (kd_tr (kd_w2 hc) h2) fl_X4_85 dX4_longestHeld_33 ?_
        refine mv_iload_n 2 dX4_longestHeld_36 rfl rfl ?_
        refine mv_icmp_le 52 dX4_longestHeld_37 (by decide) ?_ ?_
        · exact vX4_longestHeld_52 hc hQ (fun x1 x2 x3 => ih x1 x2 x3) x1 x2 x3
        · refine mv_aload_n 0 dX4_longestHeld_40 rfl rfl ?_
          refine mg_X4_6 hc fl_X4_33 dX4_longestHeld_41 ?_
          refine mv_iload_n 3 dX4_longestHeld_44 rfl rfl ?_
          refine mv_aaldT (kd_w2 hc) (ln_w2 hc) dX4_longestHeld_45 (fun h3 => ?_)
          refine mg_X3_5 (kd_tr (kd_w2 hc) h3) fl_X4_85 dX4_longestHeld_46 ?_
          refine mv_istore_n (lv' := [(0, .ref (mt_adr (kG K) c)), (2, .int (σ ((c + 2) + 2 + Int32.toNatClampNeg x3) 5)), (3, .int x3)]) [1, 0, 3] dX4_longestHeld_49 rfl (by decide) rfl ?_
          refine mv_iload_n 2 dX4_longestHeld_50 rfl rfl ?_
          refine mv_istore_n (lv' := [(0, .ref (mt_adr (kG K) c)), (1, .int x3), (2, .int (σ ((c + 2) + 2 + Int32.toNatClampNeg x3) 5)), (3, .int x3)]) [1, 0, 2, 3] dX4_longestHeld_51 rfl (by decide) rfl ?_
          exact vX4_longestHeld_52 hc hQ (fun x1 x2 x3 => ih x1 x2 x3) x3 (σ ((c + 2) + 2 + Int32.toNatClampNeg x3) 5) x3
def fX4_longestHeld (fu : Nat) (σ : mt_St) (c : Nat) : Option Int32 :=
  bX4_longestHeld_6 fu c σ fu (-1 : Int32) (-1 : Int32) (0 : Int32)
set_option maxHeartbeats 4000000 in
set_option maxRecDepth 20000 in
theorem vX4_longestHeld {K : mt_C} {fu : Nat} {σ : mt_St} {c : Nat} {r : Int32} (hc : mt_kd c = 4) (hQ : mt_R K (some .int) (some (.int r)) σ) : mt_V K cX4_longestHeld RX4 4 0 σ 0 [(0, .ref (mt_adr (kG K) c))] [] (fX4_longestHeld fu σ c = some r) := by
  unfold fX4_longestHeld
  refine mv_iconst (v := -1) dX4_longestHeld_0 ic_m1 ?_
  refine mv_istore_n (lv' := [(0, .ref (mt_adr (kG K) c)), (1, .int (-1 : Int32))]) [1, 0] dX4_longestHeld_1 rfl (by decide) rfl ?_
  refine mv_iconst (v := -1) dX4_longestHeld_2 ic_m1 ?_
  refine mv_istore_n (lv' := [(0, .ref (mt_adr (kG K) c)), (1, .int (-1 : Int32)), (2, .int (-1 : Int32))]) [1, 2, 0] dX4_longestHeld_3 rfl (by decide) rfl ?_
  refine mv_iconst (v := 0) dX4_longestHeld_4 ic_0 ?_
  refine mv_istore_n (lv' := [(0, .ref (mt_adr (kG K) c)), (1, .int (-1 : Int32)), (2, .int (-1 : Int32)), (3, .int (0 : Int32))]) [1, 2, 3, 0] dX4_longestHeld_5 rfl (by decide) rfl ?_
  exact vX4_longestHeld_6 hc hQ fu (-1 : Int32) (-1 : Int32) (0 : Int32)
theorem co_X4_longestHeld {l : Launch} {G : mt_G} {fu : Nat} {σ : mt_St} {c : Nat} {r : Int32} (hc : mt_kd c = 4) (h : fX4_longestHeld fu σ c = some r) : mt_Con l G yX4_longestHeld cX4_longestHeld 4 (some .int) 0 [.ref (mt_adr G c)] σ (some (.int r)) σ :=
  mt_con (by decide) (Nat.le_of_ble_eq_true rfl) (fun K hl hG hQ => by subst hl; subst hG; exact fun _ => vX4_longestHeld hc hQ h)
theorem dX4_allBroken_0 : decode cX4_allBroken 0 = .ok (.iconst 0, 1) := by decide +kernel
theorem dX4_allBroken_1 : decode cX4_allBroken 1 = .ok (.istore_n 1, 1) := by decide +kernel
theorem dX4_allBroken_2 : decode cX4_allBroken 2 = .ok (.iconst 0, 1) := by decide +kernel
theorem dX4_allBroken_3 : decode cX4_allBroken 3 = .ok (.istore_n 2, 1) := by decide +kernel
theorem dX4_allBroken_4 : decode cX4_allBroken 4 = .ok (.iload_n 2, 1) := by decide +kernel
theorem dX4_allBroken_5 : decode cX4_allBroken 5 = .ok (.aload_n 0, 1) := by decide +kernel
theorem dX4_allBroken_6 : decode cX4_allBroken 6 = .ok (.getfield 37, 3) := by decide +kernel
theorem dX4_allBroken_9 : decode cX4_allBroken 9 = .ok (.if_icmp .ge 21, 3) := by decide +kernel
theorem dX4_allBroken_12 : decode cX4_allBroken 12 = .ok (.iload_n 1, 1) := by decide +kernel
theorem dX4_allBroken_13 : decode cX4_allBroken 13 = .ok (.aload_n 0, 1) := by decide +kernel
theorem dX4_allBroken_14 : decode cX4_allBroken 14 = .ok (.getfield 33, 3) := by decide +kernel
theorem dX4_allBroken_17 : decode cX4_allBroken 17 = .ok (.iload_n 2, 1) := by decide +kernel
theorem dX4_allBroken_18 : decode cX4_allBroken 18 = .ok (.aaload, 1) := by decide +kernel
theorem dX4_allBroken_19 : decode cX4_allBroken 19 = .ok (.getfield 88, 3) := by decide +kernel
theorem dX4_allBroken_22 : decode cX4_allBroken 22 = .ok (.iadd, 1) := by decide +kernel
theorem dX4_allBroken_23 : decode cX4_allBroken 23 = .ok (.istore_n 1, 1) := by decide +kernel
theorem dX4_allBroken_24 : decode cX4_allBroken 24 = .ok (.iinc 2 1, 3) := by decide +kernel
theorem dX4_allBroken_27 : decode cX4_allBroken 27 = .ok (.goto (-23), 3) := by decide +kernel
theorem dX4_allBroken_30 : decode cX4_allBroken 30 = .ok (.iload_n 1, 1) := by decide +kernel
theorem dX4_allBroken_31 : decode cX4_allBroken 31 = .ok (.ireturn, 1) := by decide +kernel
def bX4_allBroken_4 (fu : Nat) (c : Nat) (σ : mt_St) : Nat → Int32 → Int32 → Option Int32
  | 0, _, _ => none
  | n + 1, x1, x2 =>
    if (σ c 7) ≤ x2 then
      some x1
    else
      mt_chk (mt_in x2 8) <|
      bX4_allBroken_4 fu c σ n (x1 + (σ ((c + 2) + 2 + Int32.toNatClampNeg x2) 7)) (x2 + 1)
set_option maxHeartbeats 4000000 in
set_option maxRecDepth 20000 in
theorem vX4_allBroken_4 {K : mt_C} {fu : Nat} {c : Nat} {σ : mt_St} {r : Int32} (hc : mt_kd c = 4) (hQ : mt_R K (some .int) (some (.int r)) σ) : ∀ (n : Nat) (x1 : Int32) (x2 : Int32), mt_V K cX4_allBroken RX4 3 0 σ 4 [(0, .ref (mt_adr (kG K) c)), (1, .int x1), (2, .int x2)] [] (bX4_allBroken_4 fu c σ n x1 x2 = some r) := by
  intro n
  induction n with
  | zero => intro x1 x2; intro hP; unfold bX4_allBroken_4 at hP; cases hP
  | succ n ih =>
    intro x1 x2
    unfold bX4_allBroken_4
    refine mv_iload_n 2 dX4_allBroken_4 rfl rfl ?_
    refine mv_aload_n 0 dX4_allBroken_5 rfl rfl ?_
    refine mg_X4_7 hc fl_X4_37 dX4_allBroken_6 ?_
    refine mv_icmp_ge 30 dX4_allBroken_9 (by decide) ?_ ?_
    · refine mv_iload_n 1 dX4_allBroken_30 rfl rfl ?_
      exact mv_iretr hQ dX4_allBroken_31
    · refine mv_iload_n 1 dX4_allBroken_12 rfl rfl ?_
      refine mv_aload_n 0 dX4_allBroken_13 rfl rfl ?_
      refine mg_X4_6 hc fl_X4_33 dX4_allBroken_14 ?_
      refine mv_iload_n 2 dX4_allBroken_17 rfl rfl ?_
      refine mv_aaldT (kd_w2 hc) (ln_w2 hc) dX4_allBroken_18 (fun h1 => ?_)
      refine mg_X3_7 (kd_tr (kd_w2 hc) h1) fl_X4_88 dX4_allBroken_19 ?_
      refine mv_iadd dX4_allBroken_22 ?_
      refine mv_istore_n (lv' := [(0, .ref (mt_adr (kG K) c)), (1, .int (x1 + (σ ((c + 2) + 2 + Int32.toNatClampNeg x2) 7))), (2, .int x2)]) [1, 0, 2] dX4_allBroken_23 rfl (by decide) rfl ?_
      refine mv_iinc (k0 := 2) (v := x2 + 1) (lv' := [(0, .ref (mt_adr (kG K) c)), (1, .int (x1 + (σ ((c + 2) + 2 + Int32.toNatClampNeg x2) 7))), (2, .int (x2 + 1))]) [1, 2, 0] dX4_allBroken_24 rfl (mt_inc ic_1) (by decide) rfl ?_
      refine mv_goto 4 dX4_allBroken_27 (by decide) ?_
      exact ih (x1 + (σ ((c + 2) + 2 + Int32.toNatClampNeg x2) 7)) (x2 + 1)
def fX4_allBroken (fu : Nat) (σ : mt_St) (c : Nat) : Option Int32 :=
  bX4_allBroken_4 fu c σ fu (0 : Int32) (0 : Int32)
set_option maxHeartbeats 4000000 in
set_option maxRecDepth 20000 in
theorem vX4_allBroken {K : mt_C} {fu : Nat} {σ : mt_St} {c : Nat} {r : Int32} (hc : mt_kd c = 4) (hQ : mt_R K (some .int) (some (.int r)) σ) : mt_V K cX4_allBroken RX4 3 0 σ 0 [(0, .ref (mt_adr (kG K) c))] [] (fX4_allBroken fu σ c = some r) := by
  unfold fX4_allBroken
  refine mv_iconst (v := 0) dX4_allBroken_0 ic_0 ?_
  refine mv_istore_n (lv' := [(0, .ref (mt_adr (kG K) c)), (1, .int (0 : Int32))]) [1, 0] dX4_allBroken_1 rfl (by decide) rfl ?_
  refine mv_iconst (v := 0) dX4_allBroken_2 ic_0 ?_
  refine mv_istore_n (lv' := [(0, .ref (mt_adr (kG K) c)), (1, .int (0 : Int32)), (2, .int (0 : Int32))]) [1, 2, 0] dX4_allBroken_3 rfl (by decide) rfl ?_
  exact vX4_allBroken_4 hc hQ fu (0 : Int32) (0 : Int32)
theorem co_X4_allBroken {l : Launch} {G : mt_G} {fu : Nat} {σ : mt_St} {c : Nat} {r : Int32} (hc : mt_kd c = 4) (h : fX4_allBroken fu σ c = some r) : mt_Con l G yX4_allBroken cX4_allBroken 3 (some .int) 0 [.ref (mt_adr G c)] σ (some (.int r)) σ :=
  mt_con (by decide) (Nat.le_of_ble_eq_true rfl) (fun K hl hG hQ => by subst hl; subst hG; exact fun _ => vX4_allBroken hc hQ h)
theorem dX4_spotsHolding_0 : decode cX4_spotsHolding 0 = .ok (.iconst 0, 1) := by decide +kernel
theorem dX4_spotsHolding_1 : decode cX4_spotsHolding 1 = .ok (.istore_n 1, 1) := by decide +kernel
theorem dX4_spotsHolding_2 : decode cX4_spotsHolding 2 = .ok (.iconst 0, 1) := by decide +kernel
theorem dX4_spotsHolding_3 : decode cX4_spotsHolding 3 = .ok (.istore_n 2, 1) := by decide +kernel
theorem dX4_spotsHolding_4 : decode cX4_spotsHolding 4 = .ok (.iload_n 2, 1) := by decide +kernel
theorem dX4_spotsHolding_5 : decode cX4_spotsHolding 5 = .ok (.bipush 10, 2) := by decide +kernel
theorem dX4_spotsHolding_7 : decode cX4_spotsHolding 7 = .ok (.if_icmp .ge 21, 3) := by decide +kernel
theorem dX4_spotsHolding_10 : decode cX4_spotsHolding 10 = .ok (.aload_n 0, 1) := by decide +kernel
theorem dX4_spotsHolding_11 : decode cX4_spotsHolding 11 = .ok (.getfield 40, 3) := by decide +kernel
theorem dX4_spotsHolding_14 : decode cX4_spotsHolding 14 = .ok (.iload_n 2, 1) := by decide +kernel
theorem dX4_spotsHolding_15 : decode cX4_spotsHolding 15 = .ok (.iaload, 1) := by decide +kernel
theorem dX4_spotsHolding_16 : decode cX4_spotsHolding 16 = .ok (.ifCond .lt 6, 3) := by decide +kernel
theorem dX4_spotsHolding_19 : decode cX4_spotsHolding 19 = .ok (.iinc 1 1, 3) := by decide +kernel
theorem dX4_spotsHolding_22 : decode cX4_spotsHolding 22 = .ok (.iinc 2 1, 3) := by decide +kernel
theorem dX4_spotsHolding_25 : decode cX4_spotsHolding 25 = .ok (.goto (-21), 3) := by decide +kernel
theorem dX4_spotsHolding_28 : decode cX4_spotsHolding 28 = .ok (.iload_n 1, 1) := by decide +kernel
theorem dX4_spotsHolding_29 : decode cX4_spotsHolding 29 = .ok (.ireturn, 1) := by decide +kernel
def bX4_spotsHolding_22 (fu : Nat) (c : Nat) (σ : mt_St) (k4 : Int32 → Int32 → Option Int32) (x1 : Int32) (x2 : Int32) : Option Int32 :=
  k4 x1 (x2 + 1)
set_option maxHeartbeats 4000000 in
set_option maxRecDepth 20000 in
theorem vX4_spotsHolding_22 {K : mt_C} {fu : Nat} {c : Nat} {σ : mt_St} {r : Int32} (hc : mt_kd c = 4) (hQ : mt_R K (some .int) (some (.int r)) σ) {k4 : Int32 → Int32 → Option Int32} (hk4 : ∀ (x1 : Int32) (x2 : Int32), mt_V K cX4_spotsHolding RX4 3 0 σ 4 [(0, .ref (mt_adr (kG K) c)), (1, .int x1), (2, .int x2)] [] (k4 x1 x2 = some r)) : ∀ (x1 : Int32) (x2 : Int32), mt_V K cX4_spotsHolding RX4 3 0 σ 22 [(0, .ref (mt_adr (kG K) c)), (1, .int x1), (2, .int x2)] [] (bX4_spotsHolding_22 fu c σ k4 x1 x2 = some r) := by
  intro x1 x2
  unfold bX4_spotsHolding_22
  refine mv_iinc (k0 := 2) (v := x2 + 1) (lv' := [(0, .ref (mt_adr (kG K) c)), (1, .int x1), (2, .int (x2 + 1))]) [1, 2, 0] dX4_spotsHolding_22 rfl (mt_inc ic_1) (by decide) rfl ?_
  refine mv_goto 4 dX4_spotsHolding_25 (by decide) ?_
  exact hk4 x1 (x2 + 1)
def bX4_spotsHolding_4 (fu : Nat) (c : Nat) (σ : mt_St) : Nat → Int32 → Int32 → Option Int32
  | 0, _, _ => none
  | n + 1, x1, x2 =>
    if (10 : Int32) ≤ x2 then
      some x1
    else
      mt_chk (mt_in x2 10) <|
      if (σ (c + 3) (Int32.toNatClampNeg x2)) < 0 then
        bX4_spotsHolding_22 fu c σ (fun x1 x2 => bX4_spotsHolding_4 fu c σ n x1 x2) x1 x2
      else
        bX4_spotsHolding_22 fu c σ (fun x1 x2 => bX4_spotsHolding_4 fu c σ n x1 x2) (x1 + 1) x2
set_option maxHeartbeats 4000000 in
set_option maxRecDepth 20000 in
theorem vX4_spotsHolding_4 {K : mt_C} {fu : Nat} {c : Nat} {σ : mt_St} {r : Int32} (hc : mt_kd c = 4) (hQ : mt_R K (some .int) (some (.int r)) σ) : ∀ (n : Nat) (x1 : Int32) (x2 : Int32), mt_V K cX4_spotsHolding RX4 3 0 σ 4 [(0, .ref (mt_adr (kG K) c)), (1, .int x1), (2, .int x2)] [] (bX4_spotsHolding_4 fu c σ n x1 x2 = some r) := by
  intro n
  induction n with
  | zero => intro x1 x2; intro hP; unfold bX4_spotsHolding_4 at hP; cases hP
  | succ n ih =>
    intro x1 x2
    unfold bX4_spotsHolding_4
    refine mv_iload_n 2 dX4_spotsHolding_4 rfl rfl ?_
    refine mv_bipush (v := 10) dX4_spotsHolding_5 bp_10 ?_
    refine mv_icmp_ge 28 dX4_spotsHolding_7 (by decide) ?_ ?_
    · refine mv_iload_n 1 dX4_spotsHolding_28 rfl rfl ?_
      exact mv_iretr hQ dX4_spotsHolding_29
    · refine mv_aload_n 0 dX4_spotsHolding_10 rfl rfl ?_
      refine mg_X4_8 hc fl_X4_40 dX4_spotsHolding_11 ?_
      refine mv_iload_n 2 dX4_spotsHolding_14 rfl rfl ?_
      refine mv_iald 10 (kd_w3 hc) (ln_w3 hc) dX4_spotsHolding_15 ?_
      refine mv_if_lt 22 dX4_spotsHolding_16 (by decide) ?_ ?_
      · exact vX4_spotsHolding_22 hc hQ (fun x1 x2 => ih x1 x2) x1 x2
      · refine mv_iinc (k0 := 1) (v := x1 + 1) (lv' := [(0, .ref (mt_adr (kG K) c)), (1, .int (x1 + 1)), (2, .int x2)]) [1, 0, 2] dX4_spotsHolding_19 rfl (mt_inc ic_1) (by decide) rfl ?_
        exact vX4_spotsHolding_22 hc hQ (fun x1 x2 => ih x1 x2) (x1 + 1) x2
def fX4_spotsHolding (fu : Nat) (σ : mt_St) (c : Nat) : Option Int32 :=
  bX4_spotsHolding_4 fu c σ fu (0 : Int32) (0 : Int32)
set_option maxHeartbeats 4000000 in
set_option maxRecDepth 20000 in
theorem vX4_spotsHolding {K : mt_C} {fu : Nat} {σ : mt_St} {c : Nat} {r : Int32} (hc : mt_kd c = 4) (hQ : mt_R K (some .int) (some (.int r)) σ) : mt_V K cX4_spotsHolding RX4 3 0 σ 0 [(0, .ref (mt_adr (kG K) c))] [] (fX4_spotsHolding fu σ c = some r) := by
  unfold fX4_spotsHolding
  refine mv_iconst (v := 0) dX4_spotsHolding_0 ic_0 ?_
  refine mv_istore_n (lv' := [(0, .ref (mt_adr (kG K) c)), (1, .int (0 : Int32))]) [1, 0] dX4_spotsHolding_1 rfl (by decide) rfl ?_
  refine mv_iconst (v := 0) dX4_spotsHolding_2 ic_0 ?_
  refine mv_istore_n (lv' := [(0, .ref (mt_adr (kG K) c)), (1, .int (0 : Int32)), (2, .int (0 : Int32))]) [1, 2, 0] dX4_spotsHolding_3 rfl (by decide) rfl ?_
  exact vX4_spotsHolding_4 hc hQ fu (0 : Int32) (0 : Int32)
theorem co_X4_spotsHolding {l : Launch} {G : mt_G} {fu : Nat} {σ : mt_St} {c : Nat} {r : Int32} (hc : mt_kd c = 4) (h : fX4_spotsHolding fu σ c = some r) : mt_Con l G yX4_spotsHolding cX4_spotsHolding 3 (some .int) 0 [.ref (mt_adr G c)] σ (some (.int r)) σ :=
  mt_con (by decide) (Nat.le_of_ble_eq_true rfl) (fun K hl hG hQ => by subst hl; subst hG; exact fun _ => vX4_spotsHolding hc hQ h)
theorem dX5_pair_0 : decode cX5_pair 0 = .ok (.lconst 1, 1) := by decide +kernel
theorem dX5_pair_1 : decode cX5_pair 1 = .ok (.iload_n 0, 1) := by decide +kernel
theorem dX5_pair_2 : decode cX5_pair 2 = .ok (.iload_n 1, 1) := by decide +kernel
theorem dX5_pair_3 : decode cX5_pair 3 = .ok (.invokestatic 287, 3) := by decide +kernel
theorem dX5_pair_6 : decode cX5_pair 6 = .ok (.bipush 6, 2) := by decide +kernel
theorem dX5_pair_8 : decode cX5_pair 8 = .ok (.imul, 1) := by decide +kernel
theorem dX5_pair_9 : decode cX5_pair 9 = .ok (.iload_n 0, 1) := by decide +kernel
theorem dX5_pair_10 : decode cX5_pair 10 = .ok (.iload_n 1, 1) := by decide +kernel
theorem dX5_pair_11 : decode cX5_pair 11 = .ok (.invokestatic 296, 3) := by decide +kernel
theorem dX5_pair_14 : decode cX5_pair 14 = .ok (.iadd, 1) := by decide +kernel
theorem dX5_pair_15 : decode cX5_pair 15 = .ok (.lshl, 1) := by decide +kernel
theorem dX5_pair_16 : decode cX5_pair 16 = .ok (.lreturn, 1) := by decide +kernel
def fX5_pair (fu : Nat) (a1 : Int32) (a2 : Int32) : Option Int64 :=
  some ((1 : Int64) <<< (Int32.toInt64 (((mt_min a1 a2) * (6 : Int32)) + (mt_max a1 a2)) &&& 63))
set_option maxHeartbeats 4000000 in
set_option maxRecDepth 20000 in
theorem vX5_pair {K : mt_C} {fu : Nat} {σ : mt_St} {a1 : Int32} {a2 : Int32} {r : Int64} (hQ : mt_R K (some .long) (some (.long r)) σ) : mt_V K cX5_pair RX5 2 1 σ 0 [(0, .int a1), (1, .int a2)] [] (fX5_pair fu a1 a2 = some r) := by
  unfold fX5_pair
  refine mv_lconst (v := 1) dX5_pair_0 (by decide) ?_
  refine mv_iload_n 0 dX5_pair_1 rfl rfl ?_
  refine mv_iload_n 1 dX5_pair_2 rfl rfl ?_
  refine mv_mmin mm_X5_287 (by decide) (Nat.le_of_ble_eq_true rfl) dX5_pair_3 ?_
  refine mv_bipush (v := 6) dX5_pair_6 bp_6 ?_
  refine mv_imul dX5_pair_8 ?_
  refine mv_iload_n 0 dX5_pair_9 rfl rfl ?_
  refine mv_iload_n 1 dX5_pair_10 rfl rfl ?_
  refine mv_mmax mm_X5_296 (by decide) (Nat.le_of_ble_eq_true rfl) dX5_pair_11 ?_
  refine mv_iadd dX5_pair_14 ?_
  refine mv_lshl dX5_pair_15 ?_
  exact mv_lretr hQ dX5_pair_16
theorem co_X5_pair {l : Launch} {G : mt_G} {fu : Nat} {σ : mt_St} {a1 : Int32} {a2 : Int32} {r : Int64}  (h : fX5_pair fu a1 a2 = some r) : mt_Con l G yX5_pair cX5_pair 2 (some .long) 1 [.int a1, .int a2] σ (some (.long r)) σ :=
  mt_con (by decide) (Nat.le_of_ble_eq_true rfl) (fun K hl hG hQ => by subst hl; subst hG; exact fun _ => vX5_pair  hQ h)
theorem dX4_pairsAtWar_0 : decode cX4_pairsAtWar 0 = .ok (.lconst 0, 1) := by decide +kernel
theorem dX4_pairsAtWar_1 : decode cX4_pairsAtWar 1 = .ok (.lstore_n 1, 1) := by decide +kernel
theorem dX4_pairsAtWar_2 : decode cX4_pairsAtWar 2 = .ok (.lconst 0, 1) := by decide +kernel
theorem dX4_pairsAtWar_3 : decode cX4_pairsAtWar 3 = .ok (.lstore_n 3, 1) := by decide +kernel
theorem dX4_pairsAtWar_4 : decode cX4_pairsAtWar 4 = .ok (.iconst 0, 1) := by decide +kernel
theorem dX4_pairsAtWar_5 : decode cX4_pairsAtWar 5 = .ok (.istore 5, 2) := by decide +kernel
theorem dX4_pairsAtWar_7 : decode cX4_pairsAtWar 7 = .ok (.iload 5, 2) := by decide +kernel
theorem dX4_pairsAtWar_9 : decode cX4_pairsAtWar 9 = .ok (.aload_n 0, 1) := by decide +kernel
theorem dX4_pairsAtWar_10 : decode cX4_pairsAtWar 10 = .ok (.getfield 37, 3) := by decide +kernel
theorem dX4_pairsAtWar_13 : decode cX4_pairsAtWar 13 = .ok (.if_icmp .ge 58, 3) := by decide +kernel
theorem dX4_pairsAtWar_16 : decode cX4_pairsAtWar 16 = .ok (.aload_n 0, 1) := by decide +kernel
theorem dX4_pairsAtWar_17 : decode cX4_pairsAtWar 17 = .ok (.getfield 33, 3) := by decide +kernel
theorem dX4_pairsAtWar_20 : decode cX4_pairsAtWar 20 = .ok (.iload 5, 2) := by decide +kernel
theorem dX4_pairsAtWar_22 : decode cX4_pairsAtWar 22 = .ok (.aaload, 1) := by decide +kernel
theorem dX4_pairsAtWar_23 : decode cX4_pairsAtWar 23 = .ok (.getfield 91, 3) := by decide +kernel
theorem dX4_pairsAtWar_26 : decode cX4_pairsAtWar 26 = .ok (.aload_n 0, 1) := by decide +kernel
theorem dX4_pairsAtWar_27 : decode cX4_pairsAtWar 27 = .ok (.getfield 33, 3) := by decide +kernel
theorem dX4_pairsAtWar_30 : decode cX4_pairsAtWar 30 = .ok (.iload 5, 2) := by decide +kernel
theorem dX4_pairsAtWar_32 : decode cX4_pairsAtWar 32 = .ok (.aaload, 1) := by decide +kernel
theorem dX4_pairsAtWar_33 : decode cX4_pairsAtWar 33 = .ok (.getfield 94, 3) := by decide +kernel
theorem dX4_pairsAtWar_36 : decode cX4_pairsAtWar 36 = .ok (.invokestatic 97, 3) := by decide +kernel
theorem dX4_pairsAtWar_39 : decode cX4_pairsAtWar 39 = .ok (.lstore 6, 2) := by decide +kernel
theorem dX4_pairsAtWar_41 : decode cX4_pairsAtWar 41 = .ok (.lload_n 1, 1) := by decide +kernel
theorem dX4_pairsAtWar_42 : decode cX4_pairsAtWar 42 = .ok (.lload 6, 2) := by decide +kernel
theorem dX4_pairsAtWar_44 : decode cX4_pairsAtWar 44 = .ok (.lor, 1) := by decide +kernel
theorem dX4_pairsAtWar_45 : decode cX4_pairsAtWar 45 = .ok (.lstore_n 1, 1) := by decide +kernel
theorem dX4_pairsAtWar_46 : decode cX4_pairsAtWar 46 = .ok (.aload_n 0, 1) := by decide +kernel
theorem dX4_pairsAtWar_47 : decode cX4_pairsAtWar 47 = .ok (.getfield 33, 3) := by decide +kernel
theorem dX4_pairsAtWar_50 : decode cX4_pairsAtWar 50 = .ok (.iload 5, 2) := by decide +kernel
theorem dX4_pairsAtWar_52 : decode cX4_pairsAtWar 52 = .ok (.aaload, 1) := by decide +kernel
theorem dX4_pairsAtWar_53 : decode cX4_pairsAtWar 53 = .ok (.getfield 75, 3) := by decide +kernel
theorem dX4_pairsAtWar_56 : decode cX4_pairsAtWar 56 = .ok (.iconst 1, 1) := by decide +kernel
theorem dX4_pairsAtWar_57 : decode cX4_pairsAtWar 57 = .ok (.if_icmp .ne 8, 3) := by decide +kernel
theorem dX4_pairsAtWar_60 : decode cX4_pairsAtWar 60 = .ok (.lload_n 3, 1) := by decide +kernel
theorem dX4_pairsAtWar_61 : decode cX4_pairsAtWar 61 = .ok (.lload 6, 2) := by decide +kernel
theorem dX4_pairsAtWar_63 : decode cX4_pairsAtWar 63 = .ok (.lor, 1) := by decide +kernel
theorem dX4_pairsAtWar_64 : decode cX4_pairsAtWar 64 = .ok (.lstore_n 3, 1) := by decide +kernel
theorem dX4_pairsAtWar_65 : decode cX4_pairsAtWar 65 = .ok (.iinc 5 1, 3) := by decide +kernel
theorem dX4_pairsAtWar_68 : decode cX4_pairsAtWar 68 = .ok (.goto (-61), 3) := by decide +kernel
theorem dX4_pairsAtWar_71 : decode cX4_pairsAtWar 71 = .ok (.lload_n 1, 1) := by decide +kernel
theorem dX4_pairsAtWar_72 : decode cX4_pairsAtWar 72 = .ok (.lload_n 3, 1) := by decide +kernel
theorem dX4_pairsAtWar_73 : decode cX4_pairsAtWar 73 = .ok (.ldc2_w 101, 3) := by decide +kernel
theorem dX4_pairsAtWar_76 : decode cX4_pairsAtWar 76 = .ok (.lxor, 1) := by decide +kernel
theorem dX4_pairsAtWar_77 : decode cX4_pairsAtWar 77 = .ok (.land, 1) := by decide +kernel
theorem dX4_pairsAtWar_78 : decode cX4_pairsAtWar 78 = .ok (.lreturn, 1) := by decide +kernel
def bX4_pairsAtWar_65 (fu : Nat) (c : Nat) (σ : mt_St) (k7 : Int64 → Int64 → Int32 → Option Int64) (x1 : Int64) (x3 : Int64) (x5 : Int32) : Option Int64 :=
  k7 x1 x3 (x5 + 1)
set_option maxHeartbeats 4000000 in
set_option maxRecDepth 20000 in
theorem vX4_pairsAtWar_65 {K : mt_C} {fu : Nat} {c : Nat} {σ : mt_St} {r : Int64} (hc : mt_kd c = 4) (hQ : mt_R K (some .long) (some (.long r)) σ) {k7 : Int64 → Int64 → Int32 → Option Int64} (hk7 : ∀ (x1 : Int64) (x3 : Int64) (x5 : Int32), mt_V K cX4_pairsAtWar RX4 8 2 σ 7 [(0, .ref (mt_adr (kG K) c)), (1, .long x1), (3, .long x3), (5, .int x5)] [] (k7 x1 x3 x5 = some r)) : ∀ (x1 : Int64) (x3 : Int64) (x5 : Int32), mt_V K cX4_pairsAtWar RX4 8 2 σ 65 [(0, .ref (mt_adr (kG K) c)), (1, .long x1), (3, .long x3), (5, .int x5)] [] (bX4_pairsAtWar_65 fu c σ k7 x1 x3 x5 = some r) := by
  intro x1 x3 x5
  unfold bX4_pairsAtWar_65
  refine mv_iinc (k0 := 3) (v := x5 + 1) (lv' := [(0, .ref (mt_adr (kG K) c)), (1, .long x1), (3, .long x3), (5, .int (x5 + 1))]) [1, 2, 3, 0] dX4_pairsAtWar_65 rfl (mt_inc ic_1) (by decide) rfl ?_
  refine mv_goto 7 dX4_pairsAtWar_68 (by decide) ?_
  exact hk7 x1 x3 (x5 + 1)
def bX4_pairsAtWar_7 (fu : Nat) (c : Nat) (σ : mt_St) : Nat → Int64 → Int64 → Int32 → Option Int64
  | 0, _, _, _ => none
  | n + 1, x1, x3, x5 =>
    if (σ c 7) ≤ x5 then
      some (x1 &&& (x3 ^^^ (-1 : Int64)))
    else
      mt_chk (mt_in x5 8) <|
      mt_chk (mt_in x5 8) <|
      mt_ask (fX5_pair fu (σ ((c + 2) + 2 + Int32.toNatClampNeg x5) 1) (σ ((c + 2) + 2 + Int32.toNatClampNeg x5) 2)) fun r3 =>
      mt_chk (mt_in x5 8) <|
      if (σ ((c + 2) + 2 + Int32.toNatClampNeg x5) 4) = (1 : Int32) then
        bX4_pairsAtWar_65 fu c σ (fun x1 x3 x5 => bX4_pairsAtWar_7 fu c σ n x1 x3 x5) (x1 ||| r3) (x3 ||| r3) x5
      else
        bX4_pairsAtWar_65 fu c σ (fun x1 x3 x5 => bX4_pairsAtWar_7 fu c σ n x1 x3 x5) (x1 ||| r3) x3 x5
set_option maxHeartbeats 4000000 in
set_option maxRecDepth 20000 in
theorem vX4_pairsAtWar_7 {K : mt_C} {fu : Nat} {c : Nat} {σ : mt_St} {r : Int64} (hc : mt_kd c = 4) (hQ : mt_R K (some .long) (some (.long r)) σ) : ∀ (n : Nat) (x1 : Int64) (x3 : Int64) (x5 : Int32), mt_V K cX4_pairsAtWar RX4 8 2 σ 7 [(0, .ref (mt_adr (kG K) c)), (1, .long x1), (3, .long x3), (5, .int x5)] [] (bX4_pairsAtWar_7 fu c σ n x1 x3 x5 = some r) := by
  intro n
  induction n with
  | zero => intro x1 x3 x5; intro hP; unfold bX4_pairsAtWar_7 at hP; cases hP
  | succ n ih =>
    intro x1 x3 x5
    unfold bX4_pairsAtWar_7
    refine mv_iload 3 dX4_pairsAtWar_7 rfl ?_
    refine mv_aload_n 0 dX4_pairsAtWar_9 rfl rfl ?_
    refine mg_X4_7 hc fl_X4_37 dX4_pairsAtWar_10 ?_
    refine mv_icmp_ge 71 dX4_pairsAtWar_13 (by decide) ?_ ?_
    · refine mv_lload_n 1 dX4_pairsAtWar_71 rfl rfl ?_
      refine mv_lload_n 2 dX4_pairsAtWar_72 rfl rfl ?_
      refine mv_ldc2 kc_X4_101 dX4_pairsAtWar_73 ?_
      refine mv_lxor dX4_pairsAtWar_76 ?_
      refine mv_land dX4_pairsAtWar_77 ?_
      exact mv_lretr hQ dX4_pairsAtWar_78
    · refine mv_aload_n 0 dX4_pairsAtWar_16 rfl rfl ?_
      refine mg_X4_6 hc fl_X4_33 dX4_pairsAtWar_17 ?_
      refine mv_iload 3 dX4_pairsAtWar_20 rfl ?_
      refine mv_aaldT (kd_w2 hc) (ln_w2 hc) dX4_pairsAtWar_22 (fun h1 => ?_)
      refine mg_X3_1 (kd_tr (kd_w2 hc) h1) fl_X4_91 dX4_pairsAtWar_23 ?_
      refine mv_aload_n 0 dX4_pairsAtWar_26 rfl rfl ?_
      refine mg_X4_6 hc fl_X4_33 dX4_pairsAtWar_27 ?_
      refine mv_iload 3 dX4_pairsAtWar_30 rfl ?_
      refine mv_aaldT (kd_w2 hc) (ln_w2 hc) dX4_pairsAtWar_32 (fun h2 => ?_)
      refine mg_X3_2 (kd_tr (kd_w2 hc) h2) fl_X4_94 dX4_pairsAtWar_33 ?_
      refine mv_cSrl (As := [.int (σ ((c + 2) + 2 + Int32.toNatClampNeg x5) 1), .int (σ ((c + 2) + 2 + Int32.toNatClampNeg x5) 2)]) (st := []) cal_X5_pair sta_X5_pair ml_X4_97 rfl (by decide) rfl (Nat.le_of_ble_eq_true rfl) dX4_pairsAtWar_36 (fun r h => co_X5_pair h) (fun r3 => ?_)
      refine mv_lstore (lv' := [(0, .ref (mt_adr (kG K) c)), (1, .long x1), (3, .long x3), (5, .int x5), (6, .long r3)]) [1, 2, 3, 4, 0] dX4_pairsAtWar_39 (by decide) rfl ?_
      refine mv_lload_n 1 dX4_pairsAtWar_41 rfl rfl ?_
      refine mv_lload 4 dX4_pairsAtWar_42 rfl ?_
      refine mv_lor dX4_pairsAtWar_44 ?_
      refine mv_lstore_n (lv' := [(0, .ref (mt_adr (kG K) c)), (1, .long (x1 ||| r3)), (3, .long x3), (5, .int x5), (6, .long r3)]) [1, 0, 2, 3, 4] dX4_pairsAtWar_45 rfl (by decide) rfl ?_
      refine mv_aload_n 0 dX4_pairsAtWar_46 rfl rfl ?_
      refine mg_X4_6 hc fl_X4_33 dX4_pairsAtWar_47 ?_
      refine mv_iload 3 dX4_pairsAtWar_50 rfl ?_
      refine mv_aaldT (kd_w2 hc) (ln_w2 hc) dX4_pairsAtWar_52 (fun h4 => ?_)
      refine mg_X3_4 (kd_tr (kd_w2 hc) h4) fl_X4_75 dX4_pairsAtWar_53 ?_
      refine mv_iconst (v := 1) dX4_pairsAtWar_56 ic_1 ?_
      refine mv_icmp_ne 65 dX4_pairsAtWar_57 (by decide) ?_ ?_
      · refine mv_sub (lv' := [(0, .ref (mt_adr (kG K) c)), (1, .long (x1 ||| r3)), (3, .long x3), (5, .int x5)]) [0, 1, 2, 3] rfl ?_
        exact vX4_pairsAtWar_65 hc hQ (fun x1 x3 x5 => ih x1 x3 x5) (x1 ||| r3) x3 x5
      · refine mv_lload_n 2 dX4_pairsAtWar_60 rfl rfl ?_
        refine mv_lload 4 dX4_pairsAtWar_61 rfl ?_
        refine mv_lor dX4_pairsAtWar_63 ?_
        refine mv_lstore_n (lv' := [(0, .ref (mt_adr (kG K) c)), (1, .long (x1 ||| r3)), (3, .long (x3 ||| r3)), (5, .int x5)]) [1, 2, 0, 3] dX4_pairsAtWar_64 rfl (by decide) rfl ?_
        exact vX4_pairsAtWar_65 hc hQ (fun x1 x3 x5 => ih x1 x3 x5) (x1 ||| r3) (x3 ||| r3) x5
def fX4_pairsAtWar (fu : Nat) (σ : mt_St) (c : Nat) : Option Int64 :=
  bX4_pairsAtWar_7 fu c σ fu (0 : Int64) (0 : Int64) (0 : Int32)
set_option maxHeartbeats 4000000 in
set_option maxRecDepth 20000 in
theorem vX4_pairsAtWar {K : mt_C} {fu : Nat} {σ : mt_St} {c : Nat} {r : Int64} (hc : mt_kd c = 4) (hQ : mt_R K (some .long) (some (.long r)) σ) : mt_V K cX4_pairsAtWar RX4 8 2 σ 0 [(0, .ref (mt_adr (kG K) c))] [] (fX4_pairsAtWar fu σ c = some r) := by
  unfold fX4_pairsAtWar
  refine mv_lconst (v := 0) dX4_pairsAtWar_0 (by decide) ?_
  refine mv_lstore_n (lv' := [(0, .ref (mt_adr (kG K) c)), (1, .long (0 : Int64))]) [1, 0] dX4_pairsAtWar_1 rfl (by decide) rfl ?_
  refine mv_lconst (v := 0) dX4_pairsAtWar_2 (by decide) ?_
  refine mv_lstore_n (lv' := [(0, .ref (mt_adr (kG K) c)), (1, .long (0 : Int64)), (3, .long (0 : Int64))]) [1, 2, 0] dX4_pairsAtWar_3 rfl (by decide) rfl ?_
  refine mv_iconst (v := 0) dX4_pairsAtWar_4 ic_0 ?_
  refine mv_istore (lv' := [(0, .ref (mt_adr (kG K) c)), (1, .long (0 : Int64)), (3, .long (0 : Int64)), (5, .int (0 : Int32))]) [1, 2, 3, 0] dX4_pairsAtWar_5 (by decide) rfl ?_
  exact vX4_pairsAtWar_7 hc hQ fu (0 : Int64) (0 : Int64) (0 : Int32)
theorem co_X4_pairsAtWar {l : Launch} {G : mt_G} {fu : Nat} {σ : mt_St} {c : Nat} {r : Int64} (hc : mt_kd c = 4) (h : fX4_pairsAtWar fu σ c = some r) : mt_Con l G yX4_pairsAtWar cX4_pairsAtWar 8 (some .long) 2 [.ref (mt_adr G c)] σ (some (.long r)) σ :=
  mt_con (by decide) (Nat.le_of_ble_eq_true rfl) (fun K hl hG hQ => by subst hl; subst hG; exact fun _ => vX4_pairsAtWar hc hQ h)
