theorem dX6_finding_0 : decode cX6_finding 0 = .ok (.aload_n 0, 1) := by decide +kernel
theorem dX6_finding_1 : decode cX6_finding 1 = .ok (.getfield 19, 3) := by decide +kernel
theorem dX6_finding_4 : decode cX6_finding 4 = .ok (.ldc 60, 2) := by decide +kernel
theorem dX6_finding_6 : decode cX6_finding 6 = .ok (.iload_n 1, 1) := by decide +kernel
theorem dX6_finding_7 : decode cX6_finding 7 = .ok (.isub, 1) := by decide +kernel
theorem dX6_finding_8 : decode cX6_finding 8 = .ok (.iconst 1, 1) := by decide +kernel
theorem dX6_finding_9 : decode cX6_finding 9 = .ok (.iadd, 1) := by decide +kernel
theorem dX6_finding_10 : decode cX6_finding 10 = .ok (.dup2, 1) := by decide +kernel
theorem dX6_finding_11 : decode cX6_finding 11 = .ok (.iaload, 1) := by decide +kernel
theorem dX6_finding_12 : decode cX6_finding 12 = .ok (.iconst 1, 1) := by decide +kernel
theorem dX6_finding_13 : decode cX6_finding 13 = .ok (.iadd, 1) := by decide +kernel
theorem dX6_finding_14 : decode cX6_finding 14 = .ok (.iastore, 1) := by decide +kernel
theorem dX6_finding_15 : decode cX6_finding 15 = .ok (.aload_n 0, 1) := by decide +kernel
theorem dX6_finding_16 : decode cX6_finding 16 = .ok (.getfield 19, 3) := by decide +kernel
theorem dX6_finding_19 : decode cX6_finding 19 = .ok (.iconst 0, 1) := by decide +kernel
theorem dX6_finding_20 : decode cX6_finding 20 = .ok (.dup2, 1) := by decide +kernel
theorem dX6_finding_21 : decode cX6_finding 21 = .ok (.iaload, 1) := by decide +kernel
theorem dX6_finding_22 : decode cX6_finding 22 = .ok (.iconst 1, 1) := by decide +kernel
theorem dX6_finding_23 : decode cX6_finding 23 = .ok (.iadd, 1) := by decide +kernel
theorem dX6_finding_24 : decode cX6_finding 24 = .ok (.iastore, 1) := by decide +kernel
theorem dX6_finding_25 : decode cX6_finding 25 = .ok (.iload_n 1, 1) := by decide +kernel
theorem dX6_finding_26 : decode cX6_finding 26 = .ok (.ireturn, 1) := by decide +kernel
def fX6_finding (fu : Nat) (σ : mt_St) (a1 : Int32) : Option (Int32 × mt_St) :=
  mt_chk (mt_in (((-1000001 : Int32) - a1) + (1 : Int32)) 8) <|
  mt_chk (mt_in (((-1000001 : Int32) - a1) + (1 : Int32)) 8) <|
  mt_bnd (mt_up σ 60 (Int32.toNatClampNeg (((-1000001 : Int32) - a1) + (1 : Int32))) ((σ 60 (Int32.toNatClampNeg (((-1000001 : Int32) - a1) + (1 : Int32)))) + (1 : Int32))) fun s1 =>
  mt_bnd (mt_up s1 60 0 ((s1 60 0) + (1 : Int32))) fun s2 =>
  some (a1, s2)
set_option maxHeartbeats 4000000 in
set_option maxRecDepth 20000 in
theorem vX6_finding {K : mt_C} {fu : Nat} {σ : mt_St} {a1 : Int32} {r : Int32} {σf : mt_St} (hQ : mt_R K (some .int) (some (.int r)) σf) : mt_V K cX6_finding RX6 2 0 σ 0 [(0, .ref (mt_adr (kG K) 56)), (1, .int a1)] [] (fX6_finding fu σ a1 = some (r, σf)) := by
  unfold fX6_finding
  refine mv_aload_n 0 dX6_finding_0 rfl rfl ?_
  refine mg_X6_4 fl_X6_19 dX6_finding_1 ?_
  refine mv_ldc kc_X6_60 dX6_finding_4 ?_
  refine mv_iload_n 1 dX6_finding_6 rfl rfl ?_
  refine mv_isub dX6_finding_7 ?_
  refine mv_iconst (v := 1) dX6_finding_8 ic_1 ?_
  refine mv_iadd dX6_finding_9 ?_
  refine mv_dup2 dX6_finding_10 rfl rfl ?_
  refine mv_iald 8 rfl rfl dX6_finding_11 ?_
  refine mv_iconst (v := 1) dX6_finding_12 ic_1 ?_
  refine mv_iadd dX6_finding_13 ?_
  refine mv_iast 8 rfl rfl dX6_finding_14 (fun s1 => ?_)
  refine mv_aload_n 0 dX6_finding_15 rfl rfl ?_
  refine mg_X6_4 fl_X6_19 dX6_finding_16 ?_
  refine mv_iconst (v := 0) dX6_finding_19 ic_0 ?_
  refine mv_dup2 dX6_finding_20 rfl rfl ?_
  refine mv_ialdk 8 0 rfl rfl (by decide) (by decide) dX6_finding_21 ?_
  refine mv_iconst (v := 1) dX6_finding_22 ic_1 ?_
  refine mv_iadd dX6_finding_23 ?_
  refine mv_iastk 8 0 rfl rfl (by decide) (by decide) dX6_finding_24 (fun s2 => ?_)
  refine mv_iload_n 1 dX6_finding_25 rfl rfl ?_
  exact mv_iret hQ dX6_finding_26
theorem co_X6_finding {l : Launch} {G : mt_G} {fu : Nat} {σ : mt_St} {a1 : Int32} {r : Int32} {σf : mt_St}  (h : fX6_finding fu σ a1 = some (r, σf)) : mt_Con l G yX6_finding cX6_finding 2 (some .int) 0 [.ref (mt_adr G 56), .int a1] σ (some (.int r)) σf :=
  mt_con (by decide) (Nat.le_of_ble_eq_true rfl) (fun K hl hG hQ => by subst hl; subst hG; exact fun _ => vX6_finding  hQ h)
theorem dX6_within_0 : decode cX6_within 0 = .ok (.iload_n 0, 1) := by decide +kernel
theorem dX6_within_1 : decode cX6_within 1 = .ok (.iload_n 1, 1) := by decide +kernel
theorem dX6_within_2 : decode cX6_within 2 = .ok (.if_icmp .lt 12, 3) := by decide +kernel
theorem dX6_within_5 : decode cX6_within 5 = .ok (.iload_n 0, 1) := by decide +kernel
theorem dX6_within_6 : decode cX6_within 6 = .ok (.iload_n 2, 1) := by decide +kernel
theorem dX6_within_7 : decode cX6_within 7 = .ok (.if_icmp .gt 7, 3) := by decide +kernel
theorem dX6_within_10 : decode cX6_within 10 = .ok (.iconst 1, 1) := by decide +kernel
theorem dX6_within_11 : decode cX6_within 11 = .ok (.goto 4, 3) := by decide +kernel
theorem dX6_within_14 : decode cX6_within 14 = .ok (.iconst 0, 1) := by decide +kernel
theorem dX6_within_15 : decode cX6_within 15 = .ok (.ireturn, 1) := by decide +kernel
def bX6_within_15 (fu : Nat) (y0 : Int32) : Option Int32 :=
  mt_chk (mt_b01 y0) (some y0)
set_option maxHeartbeats 4000000 in
set_option maxRecDepth 20000 in
theorem vX6_within_15 {K : mt_C} {fu : Nat} {σ : mt_St} {r : Int32} (hQ : mt_R K (some .boolean) (some (.int r)) σ) : ∀ (y0 : Int32), mt_V K cX6_within RX6 3 0 σ 15 [] [.int y0] (bX6_within_15 fu y0 = some r) := by
  intro y0
  unfold bX6_within_15
  exact mv_zretr hQ dX6_within_15
def bX6_within_14 (fu : Nat) : Option Int32 :=
  bX6_within_15 fu (0 : Int32)
set_option maxHeartbeats 4000000 in
set_option maxRecDepth 20000 in
theorem vX6_within_14 {K : mt_C} {fu : Nat} {σ : mt_St} {r : Int32} (hQ : mt_R K (some .boolean) (some (.int r)) σ) : mt_V K cX6_within RX6 3 0 σ 14 [] [] (bX6_within_14 fu = some r) := by
  unfold bX6_within_14
  refine mv_iconst (v := 0) dX6_within_14 ic_0 ?_
  exact vX6_within_15 hQ (0 : Int32)
def fX6_within (fu : Nat) (a1 : Int32) (a2 : Int32) (a3 : Int32) : Option Int32 :=
  if a1 < a2 then
    bX6_within_14 fu
  else
    if a3 < a1 then
      bX6_within_14 fu
    else
      bX6_within_15 fu (1 : Int32)
set_option maxHeartbeats 4000000 in
set_option maxRecDepth 20000 in
theorem vX6_within {K : mt_C} {fu : Nat} {σ : mt_St} {a1 : Int32} {a2 : Int32} {a3 : Int32} {r : Int32} (hQ : mt_R K (some .boolean) (some (.int r)) σ) : mt_V K cX6_within RX6 3 0 σ 0 [(0, .int a1), (1, .int a2), (2, .int a3)] [] (fX6_within fu a1 a2 a3 = some r) := by
  unfold fX6_within
  refine mv_iload_n 0 dX6_within_0 rfl rfl ?_
  refine mv_iload_n 1 dX6_within_1 rfl rfl ?_
  refine mv_icmp_lt 14 dX6_within_2 (by decide) ?_ ?_
  · refine mv_sub (lv' := []) [] rfl ?_
    exact vX6_within_14 hQ
  · refine mv_iload_n 0 dX6_within_5 rfl rfl ?_
    refine mv_iload_n 2 dX6_within_6 rfl rfl ?_
    refine mv_icmp_gt 14 dX6_within_7 (by decide) ?_ ?_
    · refine mv_sub (lv' := []) [] rfl ?_
      exact vX6_within_14 hQ
    · refine mv_iconst (v := 1) dX6_within_10 ic_1 ?_
      refine mv_goto 15 dX6_within_11 (by decide) ?_
      refine mv_sub (lv' := []) [] rfl ?_
      exact vX6_within_15 hQ (1 : Int32)
theorem co_X6_within {l : Launch} {G : mt_G} {fu : Nat} {σ : mt_St} {a1 : Int32} {a2 : Int32} {a3 : Int32} {r : Int32}  (h : fX6_within fu a1 a2 a3 = some r) : mt_Con l G yX6_within cX6_within 3 (some .boolean) 0 [.int a1, .int a2, .int a3] σ (some (.int r)) σ :=
  mt_con (by decide) (Nat.le_of_ble_eq_true rfl) (fun K hl hG hQ => by subst hl; subst hG; exact fun _ => vX6_within  hQ h)
theorem dX6_become_0 : decode cX6_become 0 = .ok (.aload_n 0, 1) := by decide +kernel
theorem dX6_become_1 : decode cX6_become 1 = .ok (.getfield 9, 3) := by decide +kernel
theorem dX6_become_4 : decode cX6_become 4 = .ok (.iload_n 1, 1) := by decide +kernel
theorem dX6_become_5 : decode cX6_become 5 = .ok (.iaload, 1) := by decide +kernel
theorem dX6_become_6 : decode cX6_become 6 = .ok (.istore_n 3, 1) := by decide +kernel
theorem dX6_become_7 : decode cX6_become 7 = .ok (.aload_n 0, 1) := by decide +kernel
theorem dX6_become_8 : decode cX6_become 8 = .ok (.getfield 9, 3) := by decide +kernel
theorem dX6_become_11 : decode cX6_become 11 = .ok (.iload_n 1, 1) := by decide +kernel
theorem dX6_become_12 : decode cX6_become 12 = .ok (.iload_n 2, 1) := by decide +kernel
theorem dX6_become_13 : decode cX6_become 13 = .ok (.iastore, 1) := by decide +kernel
theorem dX6_become_14 : decode cX6_become 14 = .ok (.iload_n 3, 1) := by decide +kernel
theorem dX6_become_15 : decode cX6_become 15 = .ok (.ireturn, 1) := by decide +kernel
def fX6_become (fu : Nat) (σ : mt_St) (a1 : Int32) (a2 : Int32) : Option (Int32 × mt_St) :=
  mt_chk (mt_in a1 86) <|
  mt_chk (mt_in a1 86) <|
  mt_bnd (mt_up σ 57 (Int32.toNatClampNeg a1) a2) fun s1 =>
  some ((σ 57 (Int32.toNatClampNeg a1)), s1)
set_option maxHeartbeats 4000000 in
set_option maxRecDepth 20000 in
theorem vX6_become {K : mt_C} {fu : Nat} {σ : mt_St} {a1 : Int32} {a2 : Int32} {r : Int32} {σf : mt_St} (hQ : mt_R K (some .int) (some (.int r)) σf) : mt_V K cX6_become RX6 4 0 σ 0 [(0, .ref (mt_adr (kG K) 56)), (1, .int a1), (2, .int a2)] [] (fX6_become fu σ a1 a2 = some (r, σf)) := by
  unfold fX6_become
  refine mv_aload_n 0 dX6_become_0 rfl rfl ?_
  refine mg_X6_0 fl_X6_9 dX6_become_1 ?_
  refine mv_iload_n 1 dX6_become_4 rfl rfl ?_
  refine mv_iald 86 rfl rfl dX6_become_5 ?_
  refine mv_istore_n (lv' := [(0, .ref (mt_adr (kG K) 56)), (1, .int a1), (2, .int a2), (3, .int (σ 57 (Int32.toNatClampNeg a1)))]) [1, 2, 3, 0] dX6_become_6 rfl (by decide) rfl ?_
  refine mv_aload_n 0 dX6_become_7 rfl rfl ?_
  refine mg_X6_0 fl_X6_9 dX6_become_8 ?_
  refine mv_iload_n 1 dX6_become_11 rfl rfl ?_
  refine mv_iload_n 2 dX6_become_12 rfl rfl ?_
  refine mv_iast 86 rfl rfl dX6_become_13 (fun s1 => ?_)
  refine mv_iload_n 3 dX6_become_14 rfl rfl ?_
  exact mv_iret hQ dX6_become_15
theorem co_X6_become {l : Launch} {G : mt_G} {fu : Nat} {σ : mt_St} {a1 : Int32} {a2 : Int32} {r : Int32} {σf : mt_St}  (h : fX6_become fu σ a1 a2 = some (r, σf)) : mt_Con l G yX6_become cX6_become 4 (some .int) 0 [.ref (mt_adr G 56), .int a1, .int a2] σ (some (.int r)) σf :=
  mt_con (by decide) (Nat.le_of_ble_eq_true rfl) (fun K hl hG hQ => by subst hl; subst hG; exact fun _ => vX6_become  hQ h)
theorem dX6_copyRow_0 : decode cX6_copyRow 0 = .ok (.iconst 0, 1) := by decide +kernel
theorem dX6_copyRow_1 : decode cX6_copyRow 1 = .ok (.istore_n 2, 1) := by decide +kernel
theorem dX6_copyRow_2 : decode cX6_copyRow 2 = .ok (.iload_n 2, 1) := by decide +kernel
theorem dX6_copyRow_3 : decode cX6_copyRow 3 = .ok (.bipush 86, 2) := by decide +kernel
theorem dX6_copyRow_5 : decode cX6_copyRow 5 = .ok (.if_icmp .ge 15, 3) := by decide +kernel
theorem dX6_copyRow_8 : decode cX6_copyRow 8 = .ok (.aload_n 1, 1) := by decide +kernel
theorem dX6_copyRow_9 : decode cX6_copyRow 9 = .ok (.iload_n 2, 1) := by decide +kernel
theorem dX6_copyRow_10 : decode cX6_copyRow 10 = .ok (.aload_n 0, 1) := by decide +kernel
theorem dX6_copyRow_11 : decode cX6_copyRow 11 = .ok (.iload_n 2, 1) := by decide +kernel
theorem dX6_copyRow_12 : decode cX6_copyRow 12 = .ok (.iaload, 1) := by decide +kernel
theorem dX6_copyRow_13 : decode cX6_copyRow 13 = .ok (.iastore, 1) := by decide +kernel
theorem dX6_copyRow_14 : decode cX6_copyRow 14 = .ok (.iinc 2 1, 3) := by decide +kernel
theorem dX6_copyRow_17 : decode cX6_copyRow 17 = .ok (.goto (-15), 3) := by decide +kernel
theorem dX6_copyRow_20 : decode cX6_copyRow 20 = .ok (.return_, 1) := by decide +kernel
def bX6_copyRow_2 (fu : Nat) (a1 : Nat) (a2 : Nat) : Nat → mt_St → Int32 → Option (Unit × mt_St)
  | 0, _, _ => none
  | n + 1, σ, x2 =>
    if (86 : Int32) ≤ x2 then
      some ((), σ)
    else
      mt_chk (mt_in x2 86) <|
      mt_chk (mt_in x2 86) <|
      mt_bnd (mt_up σ a2 (Int32.toNatClampNeg x2) (σ a1 (Int32.toNatClampNeg x2))) fun s1 =>
      bX6_copyRow_2 fu a1 a2 n s1 (x2 + 1)
set_option maxHeartbeats 4000000 in
set_option maxRecDepth 20000 in
theorem vX6_copyRow_2 {K : mt_C} {fu : Nat} {a1 : Nat} {a2 : Nat} {r : Unit} {σf : mt_St} (ha1 : mt_kd a1 = 7) (ha1n : mt_ln a1 = 86) (ha2 : mt_kd a2 = 7) (ha2n : mt_ln a2 = 86) (hQ : mt_R K none none σf) : ∀ (n : Nat) (σ : mt_St) (x2 : Int32), mt_V K cX6_copyRow RX6 3 0 σ 2 [(0, .ref (mt_adr (kG K) a1)), (1, .ref (mt_adr (kG K) a2)), (2, .int x2)] [] (bX6_copyRow_2 fu a1 a2 n σ x2 = some (r, σf)) := by
  intro n
  induction n with
  | zero => intro σ x2; intro hP; unfold bX6_copyRow_2 at hP; cases hP
  | succ n ih =>
    intro σ x2
    unfold bX6_copyRow_2
    refine mv_iload_n 2 dX6_copyRow_2 rfl rfl ?_
    refine mv_bipush (v := 86) dX6_copyRow_3 bp_86 ?_
    refine mv_icmp_ge 20 dX6_copyRow_5 (by decide) ?_ ?_
    · exact mv_vret hQ dX6_copyRow_20
    · refine mv_aload_n 1 dX6_copyRow_8 rfl rfl ?_
      refine mv_iload_n 2 dX6_copyRow_9 rfl rfl ?_
      refine mv_aload_n 0 dX6_copyRow_10 rfl rfl ?_
      refine mv_iload_n 2 dX6_copyRow_11 rfl rfl ?_
      refine mv_iald 86 ha1 ha1n dX6_copyRow_12 ?_
      refine mv_iast 86 ha2 ha2n dX6_copyRow_13 (fun s1 => ?_)
      refine mv_iinc (k0 := 2) (v := x2 + 1) (lv' := [(0, .ref (mt_adr (kG K) a1)), (1, .ref (mt_adr (kG K) a2)), (2, .int (x2 + 1))]) [1, 2, 0] dX6_copyRow_14 rfl (mt_inc ic_1) (by decide) rfl ?_
      refine mv_goto 2 dX6_copyRow_17 (by decide) ?_
      exact ih s1 (x2 + 1)
def fX6_copyRow (fu : Nat) (σ : mt_St) (a1 : Nat) (a2 : Nat) : Option (Unit × mt_St) :=
  bX6_copyRow_2 fu a1 a2 fu σ (0 : Int32)
set_option maxHeartbeats 4000000 in
set_option maxRecDepth 20000 in
theorem vX6_copyRow {K : mt_C} {fu : Nat} {σ : mt_St} {a1 : Nat} {a2 : Nat} {r : Unit} {σf : mt_St} (ha1 : mt_kd a1 = 7) (ha1n : mt_ln a1 = 86) (ha2 : mt_kd a2 = 7) (ha2n : mt_ln a2 = 86) (hQ : mt_R K none none σf) : mt_V K cX6_copyRow RX6 3 0 σ 0 [(0, .ref (mt_adr (kG K) a1)), (1, .ref (mt_adr (kG K) a2))] [] (fX6_copyRow fu σ a1 a2 = some (r, σf)) := by
  unfold fX6_copyRow
  refine mv_iconst (v := 0) dX6_copyRow_0 ic_0 ?_
  refine mv_istore_n (lv' := [(0, .ref (mt_adr (kG K) a1)), (1, .ref (mt_adr (kG K) a2)), (2, .int (0 : Int32))]) [1, 2, 0] dX6_copyRow_1 rfl (by decide) rfl ?_
  exact vX6_copyRow_2 ha1 ha1n ha2 ha2n hQ fu σ (0 : Int32)
theorem co_X6_copyRow {l : Launch} {G : mt_G} {fu : Nat} {σ : mt_St} {a1 : Nat} {a2 : Nat} {r : Unit} {σf : mt_St} (ha1 : mt_kd a1 = 7) (ha1n : mt_ln a1 = 86) (ha2 : mt_kd a2 = 7) (ha2n : mt_ln a2 = 86) (h : fX6_copyRow fu σ a1 a2 = some (r, σf)) : mt_Con l G yX6_copyRow cX6_copyRow 3 none 0 [.ref (mt_adr G a1), .ref (mt_adr G a2)] σ none σf :=
  mt_con (by decide) (Nat.le_of_ble_eq_true rfl) (fun K hl hG hQ => by subst hl; subst hG; exact fun _ => vX6_copyRow ha1 ha1n ha2 ha2n hQ h)
theorem dX6_putBack_0 : decode cX6_putBack 0 = .ok (.aload_n 0, 1) := by decide +kernel
theorem dX6_putBack_1 : decode cX6_putBack 1 = .ok (.getfield 16, 3) := by decide +kernel
theorem dX6_putBack_4 : decode cX6_putBack 4 = .ok (.aload_n 0, 1) := by decide +kernel
theorem dX6_putBack_5 : decode cX6_putBack 5 = .ok (.getfield 9, 3) := by decide +kernel
theorem dX6_putBack_8 : decode cX6_putBack 8 = .ok (.invokestatic 61, 3) := by decide +kernel
theorem dX6_putBack_11 : decode cX6_putBack 11 = .ok (.iload_n 1, 1) := by decide +kernel
theorem dX6_putBack_12 : decode cX6_putBack 12 = .ok (.ireturn, 1) := by decide +kernel
def fX6_putBack (fu : Nat) (σ : mt_St) (a1 : Int32) : Option (Int32 × mt_St) :=
  mt_call (fX6_copyRow fu σ 59 57) fun _ s2 =>
  some (a1, s2)
set_option maxHeartbeats 4000000 in
set_option maxRecDepth 20000 in
theorem vX6_putBack {K : mt_C} {fu : Nat} {σ : mt_St} {a1 : Int32} {r : Int32} {σf : mt_St} (hQ : mt_R K (some .int) (some (.int r)) σf) : mt_V K cX6_putBack RX6 2 1 σ 0 [(0, .ref (mt_adr (kG K) 56)), (1, .int a1)] [] (fX6_putBack fu σ a1 = some (r, σf)) := by
  unfold fX6_putBack
  refine mv_aload_n 0 dX6_putBack_0 rfl rfl ?_
  refine mg_X6_2 fl_X6_16 dX6_putBack_1 ?_
  refine mv_aload_n 0 dX6_putBack_4 rfl rfl ?_
  refine mg_X6_0 fl_X6_9 dX6_putBack_5 ?_
  refine mv_cSwv (As := [.ref (mt_adr (kG K) 59), .ref (mt_adr (kG K) 57)]) (st := []) cal_X6_copyRow sta_X6_copyRow ml_X6_61 rfl (by decide) rfl (Nat.le_of_ble_eq_true rfl) dX6_putBack_8 (fun r s h => co_X6_copyRow rfl rfl rfl rfl h) (fun r1 s2 => ?_)
  refine mv_iload_n 1 dX6_putBack_11 rfl rfl ?_
  exact mv_iret hQ dX6_putBack_12
theorem co_X6_putBack {l : Launch} {G : mt_G} {fu : Nat} {σ : mt_St} {a1 : Int32} {r : Int32} {σf : mt_St}  (h : fX6_putBack fu σ a1 = some (r, σf)) : mt_Con l G yX6_putBack cX6_putBack 2 (some .int) 1 [.ref (mt_adr G 56), .int a1] σ (some (.int r)) σf :=
  mt_con (by decide) (Nat.le_of_ble_eq_true rfl) (fun K hl hG hQ => by subst hl; subst hG; exact fun _ => vX6_putBack  hQ h)
theorem dX6_orNone_0 : decode cX6_orNone 0 = .ok (.iload_n 1, 1) := by decide +kernel
theorem dX6_orNone_1 : decode cX6_orNone 1 = .ok (.ifCond .ge 12, 3) := by decide +kernel
theorem dX6_orNone_4 : decode cX6_orNone 4 = .ok (.aload_n 0, 1) := by decide +kernel
theorem dX6_orNone_5 : decode cX6_orNone 5 = .ok (.ldc 65, 2) := by decide +kernel
theorem dX6_orNone_7 : decode cX6_orNone 7 = .ok (.invokevirtual 66, 3) := by decide +kernel
theorem dX6_orNone_10 : decode cX6_orNone 10 = .ok (.goto 4, 3) := by decide +kernel
theorem dX6_orNone_13 : decode cX6_orNone 13 = .ok (.iload_n 1, 1) := by decide +kernel
theorem dX6_orNone_14 : decode cX6_orNone 14 = .ok (.ireturn, 1) := by decide +kernel
def bX6_orNone_14 (fu : Nat) (σ : mt_St) (y0 : Int32) : Option (Int32 × mt_St) :=
  some (y0, σ)
set_option maxHeartbeats 4000000 in
set_option maxRecDepth 20000 in
theorem vX6_orNone_14 {K : mt_C} {fu : Nat} {r : Int32} {σf : mt_St} (hQ : mt_R K (some .int) (some (.int r)) σf) : ∀ (σ : mt_St) (y0 : Int32), mt_V K cX6_orNone RX6 2 1 σ 14 [] [.int y0] (bX6_orNone_14 fu σ y0 = some (r, σf)) := by
  intro σ y0
  unfold bX6_orNone_14
  exact mv_iret hQ dX6_orNone_14
def fX6_orNone (fu : Nat) (σ : mt_St) (a1 : Int32) : Option (Int32 × mt_St) :=
  if 0 ≤ a1 then
    bX6_orNone_14 fu σ a1
  else
    mt_call (fX6_finding fu σ (-1000004 : Int32)) fun r1 s2 =>
    bX6_orNone_14 fu s2 r1
set_option maxHeartbeats 4000000 in
set_option maxRecDepth 20000 in
theorem vX6_orNone {K : mt_C} {fu : Nat} {σ : mt_St} {a1 : Int32} {r : Int32} {σf : mt_St} (hQ : mt_R K (some .int) (some (.int r)) σf) : mt_V K cX6_orNone RX6 2 1 σ 0 [(0, .ref (mt_adr (kG K) 56)), (1, .int a1)] [] (fX6_orNone fu σ a1 = some (r, σf)) := by
  unfold fX6_orNone
  refine mv_iload_n 1 dX6_orNone_0 rfl rfl ?_
  refine mv_if_ge 13 dX6_orNone_1 (by decide) ?_ ?_
  · refine mv_iload_n 1 dX6_orNone_13 rfl rfl ?_
    refine mv_sub (lv' := []) [] rfl ?_
    exact vX6_orNone_14 hQ σ a1
  · refine mv_aload_n 0 dX6_orNone_4 rfl rfl ?_
    refine mv_ldc kc_X6_65 dX6_orNone_5 ?_
    refine mv_cVwi (As := [.int (-1000004 : Int32)]) (st := []) cal_X6_finding ins_X6_finding ml_X6_66 rfl (by decide) rfl rfl (by decide) rfl (Nat.le_of_ble_eq_true rfl) dX6_orNone_7 (fun r s h => co_X6_finding h) (fun r1 s2 => ?_)
    refine mv_goto 14 dX6_orNone_10 (by decide) ?_
    refine mv_sub (lv' := []) [] rfl ?_
    exact vX6_orNone_14 hQ s2 r1
theorem co_X6_orNone {l : Launch} {G : mt_G} {fu : Nat} {σ : mt_St} {a1 : Int32} {r : Int32} {σf : mt_St}  (h : fX6_orNone fu σ a1 = some (r, σf)) : mt_Con l G yX6_orNone cX6_orNone 2 (some .int) 1 [.ref (mt_adr G 56), .int a1] σ (some (.int r)) σf :=
  mt_con (by decide) (Nat.le_of_ble_eq_true rfl) (fun K hl hG hQ => by subst hl; subst hG; exact fun _ => vX6_orNone  hQ h)
theorem dX6_bits_0 : decode cX6_bits 0 = .ok (.iconst 0, 1) := by decide +kernel
theorem dX6_bits_1 : decode cX6_bits 1 = .ok (.istore_n 1, 1) := by decide +kernel
theorem dX6_bits_2 : decode cX6_bits 2 = .ok (.iload_n 0, 1) := by decide +kernel
theorem dX6_bits_3 : decode cX6_bits 3 = .ok (.istore_n 2, 1) := by decide +kernel
theorem dX6_bits_4 : decode cX6_bits 4 = .ok (.iload_n 2, 1) := by decide +kernel
theorem dX6_bits_5 : decode cX6_bits 5 = .ok (.ifCond .eq 15, 3) := by decide +kernel
theorem dX6_bits_8 : decode cX6_bits 8 = .ok (.iinc 1 1, 3) := by decide +kernel
theorem dX6_bits_11 : decode cX6_bits 11 = .ok (.iload_n 2, 1) := by decide +kernel
theorem dX6_bits_12 : decode cX6_bits 12 = .ok (.iload_n 2, 1) := by decide +kernel
theorem dX6_bits_13 : decode cX6_bits 13 = .ok (.iconst 1, 1) := by decide +kernel
theorem dX6_bits_14 : decode cX6_bits 14 = .ok (.isub, 1) := by decide +kernel
theorem dX6_bits_15 : decode cX6_bits 15 = .ok (.iand, 1) := by decide +kernel
theorem dX6_bits_16 : decode cX6_bits 16 = .ok (.istore_n 2, 1) := by decide +kernel
theorem dX6_bits_17 : decode cX6_bits 17 = .ok (.goto (-13), 3) := by decide +kernel
theorem dX6_bits_20 : decode cX6_bits 20 = .ok (.iload_n 1, 1) := by decide +kernel
theorem dX6_bits_21 : decode cX6_bits 21 = .ok (.ireturn, 1) := by decide +kernel
def bX6_bits_4 (fu : Nat) : Nat → Int32 → Int32 → Option Int32
  | 0, _, _ => none
  | n + 1, x1, x2 =>
    if x2 = 0 then
      some x1
    else
      bX6_bits_4 fu n (x1 + 1) (x2 &&& (x2 - (1 : Int32)))
set_option maxHeartbeats 4000000 in
set_option maxRecDepth 20000 in
theorem vX6_bits_4 {K : mt_C} {fu : Nat} {σ : mt_St} {r : Int32} (hQ : mt_R K (some .int) (some (.int r)) σ) : ∀ (n : Nat) (x1 : Int32) (x2 : Int32), mt_V K cX6_bits RX6 3 0 σ 4 [(1, .int x1), (2, .int x2)] [] (bX6_bits_4 fu n x1 x2 = some r) := by
  intro n
  induction n with
  | zero => intro x1 x2; intro hP; unfold bX6_bits_4 at hP; cases hP
  | succ n ih =>
    intro x1 x2
    unfold bX6_bits_4
    refine mv_iload_n 1 dX6_bits_4 rfl rfl ?_
    refine mv_if_eq 20 dX6_bits_5 (by decide) ?_ ?_
    · refine mv_iload_n 0 dX6_bits_20 rfl rfl ?_
      exact mv_iretr hQ dX6_bits_21
    · refine mv_iinc (k0 := 0) (v := x1 + 1) (lv' := [(1, .int (x1 + 1)), (2, .int x2)]) [0, 1] dX6_bits_8 rfl (mt_inc ic_1) (by decide) rfl ?_
      refine mv_iload_n 1 dX6_bits_11 rfl rfl ?_
      refine mv_iload_n 1 dX6_bits_12 rfl rfl ?_
      refine mv_iconst (v := 1) dX6_bits_13 ic_1 ?_
      refine mv_isub dX6_bits_14 ?_
      refine mv_iand dX6_bits_15 ?_
      refine mv_istore_n (lv' := [(1, .int (x1 + 1)), (2, .int (x2 &&& (x2 - (1 : Int32))))]) [1, 0] dX6_bits_16 rfl (by decide) rfl ?_
      refine mv_goto 4 dX6_bits_17 (by decide) ?_
      exact ih (x1 + 1) (x2 &&& (x2 - (1 : Int32)))
def fX6_bits (fu : Nat) (a1 : Int32) : Option Int32 :=
  bX6_bits_4 fu fu (0 : Int32) a1
set_option maxHeartbeats 4000000 in
set_option maxRecDepth 20000 in
theorem vX6_bits {K : mt_C} {fu : Nat} {σ : mt_St} {a1 : Int32} {r : Int32} (hQ : mt_R K (some .int) (some (.int r)) σ) : mt_V K cX6_bits RX6 3 0 σ 0 [(0, .int a1)] [] (fX6_bits fu a1 = some r) := by
  unfold fX6_bits
  refine mv_iconst (v := 0) dX6_bits_0 ic_0 ?_
  refine mv_istore_n (lv' := [(0, .int a1), (1, .int (0 : Int32))]) [1, 0] dX6_bits_1 rfl (by decide) rfl ?_
  refine mv_iload_n 0 dX6_bits_2 rfl rfl ?_
  refine mv_istore_n (lv' := [(1, .int (0 : Int32)), (2, .int a1)]) [2, 0] dX6_bits_3 rfl (by decide) rfl ?_
  exact vX6_bits_4 hQ fu (0 : Int32) a1
theorem co_X6_bits {l : Launch} {G : mt_G} {fu : Nat} {σ : mt_St} {a1 : Int32} {r : Int32}  (h : fX6_bits fu a1 = some r) : mt_Con l G yX6_bits cX6_bits 3 (some .int) 0 [.int a1] σ (some (.int r)) σ :=
  mt_con (by decide) (Nat.le_of_ble_eq_true rfl) (fun K hl hG hQ => by subst hl; subst hG; exact fun _ => vX6_bits  hQ h)
theorem dX6_isFigures_0 : decode cX6_isFigures 0 = .ok (.iload_n 0, 1) := by decide +kernel
theorem dX6_isFigures_1 : decode cX6_isFigures 1 = .ok (.iconst 0, 1) := by decide +kernel
theorem dX6_isFigures_2 : decode cX6_isFigures 2 = .ok (.sipush 4095, 3) := by decide +kernel
theorem dX6_isFigures_5 : decode cX6_isFigures 5 = .ok (.invokestatic 70, 3) := by decide +kernel
theorem dX6_isFigures_8 : decode cX6_isFigures 8 = .ok (.ireturn, 1) := by decide +kernel
def fX6_isFigures (fu : Nat) (a1 : Int32) : Option Int32 :=
  mt_ask (fX6_within fu a1 (0 : Int32) (4095 : Int32)) fun r1 =>
  mt_chk (mt_b01 r1) (some r1)
set_option maxHeartbeats 4000000 in
set_option maxRecDepth 20000 in
theorem vX6_isFigures {K : mt_C} {fu : Nat} {σ : mt_St} {a1 : Int32} {r : Int32} (hQ : mt_R K (some .boolean) (some (.int r)) σ) : mt_V K cX6_isFigures RX6 1 1 σ 0 [(0, .int a1)] [] (fX6_isFigures fu a1 = some r) := by
  unfold fX6_isFigures
  refine mv_iload_n 0 dX6_isFigures_0 rfl rfl ?_
  refine mv_iconst (v := 0) dX6_isFigures_1 ic_0 ?_
  refine mv_sipush (v := 4095) dX6_isFigures_2 sp_4095 ?_
  refine mv_cSri (As := [.int a1, .int (0 : Int32), .int (4095 : Int32)]) (st := []) cal_X6_within sta_X6_within ml_X6_70 rfl (by decide) rfl (Nat.le_of_ble_eq_true rfl) dX6_isFigures_5 (fun r h => co_X6_within h) (fun r1 => ?_)
  exact mv_zretr hQ dX6_isFigures_8
theorem co_X6_isFigures {l : Launch} {G : mt_G} {fu : Nat} {σ : mt_St} {a1 : Int32} {r : Int32}  (h : fX6_isFigures fu a1 = some r) : mt_Con l G yX6_isFigures cX6_isFigures 1 (some .boolean) 1 [.int a1] σ (some (.int r)) σ :=
  mt_con (by decide) (Nat.le_of_ble_eq_true rfl) (fun K hl hG hQ => by subst hl; subst hG; exact fun _ => vX6_isFigures  hQ h)
theorem dX6_isPower_0 : decode cX6_isPower 0 = .ok (.iload_n 0, 1) := by decide +kernel
theorem dX6_isPower_1 : decode cX6_isPower 1 = .ok (.iconst 0, 1) := by decide +kernel
theorem dX6_isPower_2 : decode cX6_isPower 2 = .ok (.iconst 5, 1) := by decide +kernel
theorem dX6_isPower_3 : decode cX6_isPower 3 = .ok (.invokestatic 70, 3) := by decide +kernel
theorem dX6_isPower_6 : decode cX6_isPower 6 = .ok (.ireturn, 1) := by decide +kernel
def fX6_isPower (fu : Nat) (a1 : Int32) : Option Int32 :=
  mt_ask (fX6_within fu a1 (0 : Int32) (5 : Int32)) fun r1 =>
  mt_chk (mt_b01 r1) (some r1)
set_option maxHeartbeats 4000000 in
set_option maxRecDepth 20000 in
theorem vX6_isPower {K : mt_C} {fu : Nat} {σ : mt_St} {a1 : Int32} {r : Int32} (hQ : mt_R K (some .boolean) (some (.int r)) σ) : mt_V K cX6_isPower RX6 1 1 σ 0 [(0, .int a1)] [] (fX6_isPower fu a1 = some r) := by
  unfold fX6_isPower
  refine mv_iload_n 0 dX6_isPower_0 rfl rfl ?_
  refine mv_iconst (v := 0) dX6_isPower_1 ic_0 ?_
  refine mv_iconst (v := 5) dX6_isPower_2 ic_5 ?_
  refine mv_cSri (As := [.int a1, .int (0 : Int32), .int (5 : Int32)]) (st := []) cal_X6_within sta_X6_within ml_X6_70 rfl (by decide) rfl (Nat.le_of_ble_eq_true rfl) dX6_isPower_3 (fun r h => co_X6_within h) (fun r1 => ?_)
  exact mv_zretr hQ dX6_isPower_6
theorem co_X6_isPower {l : Launch} {G : mt_G} {fu : Nat} {σ : mt_St} {a1 : Int32} {r : Int32}  (h : fX6_isPower fu a1 = some r) : mt_Con l G yX6_isPower cX6_isPower 1 (some .boolean) 1 [.int a1] σ (some (.int r)) σ :=
  mt_con (by decide) (Nat.le_of_ble_eq_true rfl) (fun K hl hG hQ => by subst hl; subst hG; exact fun _ => vX6_isPower  hQ h)
theorem dX6_set_0 : decode cX6_set 0 = .ok (.iload_n 1, 1) := by decide +kernel
theorem dX6_set_1 : decode cX6_set 1 = .ok (.iconst 0, 1) := by decide +kernel
theorem dX6_set_2 : decode cX6_set 2 = .ok (.iconst 1, 1) := by decide +kernel
theorem dX6_set_3 : decode cX6_set 3 = .ok (.invokestatic 70, 3) := by decide +kernel
theorem dX6_set_6 : decode cX6_set 6 = .ok (.ifCond .eq 21, 3) := by decide +kernel
theorem dX6_set_9 : decode cX6_set 9 = .ok (.iload_n 2, 1) := by decide +kernel
theorem dX6_set_10 : decode cX6_set 10 = .ok (.invokestatic 74, 3) := by decide +kernel
theorem dX6_set_13 : decode cX6_set 13 = .ok (.ifCond .eq 14, 3) := by decide +kernel
theorem dX6_set_16 : decode cX6_set 16 = .ok (.aload_n 0, 1) := by decide +kernel
theorem dX6_set_17 : decode cX6_set 17 = .ok (.iconst 4, 1) := by decide +kernel
theorem dX6_set_18 : decode cX6_set 18 = .ok (.iload_n 1, 1) := by decide +kernel
theorem dX6_set_19 : decode cX6_set 19 = .ok (.iadd, 1) := by decide +kernel
theorem dX6_set_20 : decode cX6_set 20 = .ok (.iload_n 2, 1) := by decide +kernel
theorem dX6_set_21 : decode cX6_set 21 = .ok (.invokevirtual 78, 3) := by decide +kernel
theorem dX6_set_24 : decode cX6_set 24 = .ok (.goto 9, 3) := by decide +kernel
theorem dX6_set_27 : decode cX6_set 27 = .ok (.aload_n 0, 1) := by decide +kernel
theorem dX6_set_28 : decode cX6_set 28 = .ok (.ldc 60, 2) := by decide +kernel
theorem dX6_set_30 : decode cX6_set 30 = .ok (.invokevirtual 66, 3) := by decide +kernel
theorem dX6_set_33 : decode cX6_set 33 = .ok (.ireturn, 1) := by decide +kernel
def bX6_set_33 (fu : Nat) (σ : mt_St) (y0 : Int32) : Option (Int32 × mt_St) :=
  some (y0, σ)
set_option maxHeartbeats 4000000 in
set_option maxRecDepth 20000 in
theorem vX6_set_33 {K : mt_C} {fu : Nat} {r : Int32} {σf : mt_St} (hQ : mt_R K (some .int) (some (.int r)) σf) : ∀ (σ : mt_St) (y0 : Int32), mt_V K cX6_set RX6 3 2 σ 33 [] [.int y0] (bX6_set_33 fu σ y0 = some (r, σf)) := by
  intro σ y0
  unfold bX6_set_33
  exact mv_iret hQ dX6_set_33
def bX6_set_27 (fu : Nat) (σ : mt_St) : Option (Int32 × mt_St) :=
  mt_call (fX6_finding fu σ (-1000001 : Int32)) fun r1 s2 =>
  bX6_set_33 fu s2 r1
set_option maxHeartbeats 4000000 in
set_option maxRecDepth 20000 in
theorem vX6_set_27 {K : mt_C} {fu : Nat} {r : Int32} {σf : mt_St} (hQ : mt_R K (some .int) (some (.int r)) σf) : ∀ (σ : mt_St), mt_V K cX6_set RX6 3 2 σ 27 [(0, .ref (mt_adr (kG K) 56))] [] (bX6_set_27 fu σ = some (r, σf)) := by
  intro σ
  unfold bX6_set_27
  refine mv_aload_n 0 dX6_set_27 rfl rfl ?_
  refine mv_ldc kc_X6_60 dX6_set_28 ?_
  refine mv_cVwi (As := [.int (-1000001 : Int32)]) (st := []) cal_X6_finding ins_X6_finding ml_X6_66 rfl (by decide) rfl rfl (by decide) rfl (Nat.le_of_ble_eq_true rfl) dX6_set_30 (fun r s h => co_X6_finding h) (fun r1 s2 => ?_)
  refine mv_sub (lv' := []) [] rfl ?_
  exact vX6_set_33 hQ s2 r1
def fX6_set (fu : Nat) (σ : mt_St) (a1 : Int32) (a2 : Int32) : Option (Int32 × mt_St) :=
  mt_ask (fX6_within fu a1 (0 : Int32) (1 : Int32)) fun r1 =>
  if r1 = 0 then
    bX6_set_27 fu σ
  else
    mt_ask (fX6_isFigures fu a2) fun r2 =>
    if r2 = 0 then
      bX6_set_27 fu σ
    else
      mt_call (fX6_become fu σ ((4 : Int32) + a1) a2) fun r3 s4 =>
      bX6_set_33 fu s4 r3
set_option maxHeartbeats 4000000 in
set_option maxRecDepth 20000 in
theorem vX6_set {K : mt_C} {fu : Nat} {σ : mt_St} {a1 : Int32} {a2 : Int32} {r : Int32} {σf : mt_St} (hQ : mt_R K (some .int) (some (.int r)) σf) : mt_V K cX6_set RX6 3 2 σ 0 [(0, .ref (mt_adr (kG K) 56)), (1, .int a1), (2, .int a2)] [] (fX6_set fu σ a1 a2 = some (r, σf)) := by
  unfold fX6_set
  refine mv_iload_n 1 dX6_set_0 rfl rfl ?_
  refine mv_iconst (v := 0) dX6_set_1 ic_0 ?_
  refine mv_iconst (v := 1) dX6_set_2 ic_1 ?_
  refine mv_cSri (As := [.int a1, .int (0 : Int32), .int (1 : Int32)]) (st := []) cal_X6_within sta_X6_within ml_X6_70 rfl (by decide) rfl (Nat.le_of_ble_eq_true rfl) dX6_set_3 (fun r h => co_X6_within h) (fun r1 => ?_)
  refine mv_if_eq 27 dX6_set_6 (by decide) ?_ ?_
  · refine mv_sub (lv' := [(0, .ref (mt_adr (kG K) 56))]) [0] rfl ?_
    exact vX6_set_27 hQ σ
  · refine mv_iload_n 2 dX6_set_9 rfl rfl ?_
    refine mv_cSri (As := [.int a2]) (st := []) cal_X6_isFigures sta_X6_isFigures ml_X6_74 rfl (by decide) rfl (Nat.le_of_ble_eq_true rfl) dX6_set_10 (fun r h => co_X6_isFigures h) (fun r2 => ?_)
    refine mv_if_eq 27 dX6_set_13 (by decide) ?_ ?_
    · refine mv_sub (lv' := [(0, .ref (mt_adr (kG K) 56))]) [0] rfl ?_
      exact vX6_set_27 hQ σ
    · refine mv_aload_n 0 dX6_set_16 rfl rfl ?_
      refine mv_iconst (v := 4) dX6_set_17 ic_4 ?_
      refine mv_iload_n 1 dX6_set_18 rfl rfl ?_
      refine mv_iadd dX6_set_19 ?_
      refine mv_iload_n 2 dX6_set_20 rfl rfl ?_
      refine mv_cVwi (As := [.int ((4 : Int32) + a1), .int a2]) (st := []) cal_X6_become ins_X6_become ml_X6_78 rfl (by decide) rfl rfl (by decide) rfl (Nat.le_of_ble_eq_true rfl) dX6_set_21 (fun r s h => co_X6_become h) (fun r3 s4 => ?_)
      refine mv_goto 33 dX6_set_24 (by decide) ?_
      refine mv_sub (lv' := []) [] rfl ?_
      exact vX6_set_33 hQ s4 r3
theorem co_X6_set {l : Launch} {G : mt_G} {fu : Nat} {σ : mt_St} {a1 : Int32} {a2 : Int32} {r : Int32} {σf : mt_St}  (h : fX6_set fu σ a1 a2 = some (r, σf)) : mt_Con l G yX6_set cX6_set 3 (some .int) 2 [.ref (mt_adr G 56), .int a1, .int a2] σ (some (.int r)) σf :=
  mt_con (by decide) (Nat.le_of_ble_eq_true rfl) (fun K hl hG hQ => by subst hl; subst hG; exact fun _ => vX6_set  hQ h)
theorem dX6_seen_0 : decode cX6_seen 0 = .ok (.iload_n 1, 1) := by decide +kernel
theorem dX6_seen_1 : decode cX6_seen 1 = .ok (.iconst 0, 1) := by decide +kernel
theorem dX6_seen_2 : decode cX6_seen 2 = .ok (.iconst 1, 1) := by decide +kernel
theorem dX6_seen_3 : decode cX6_seen 3 = .ok (.invokestatic 70, 3) := by decide +kernel
theorem dX6_seen_6 : decode cX6_seen 6 = .ok (.ifCond .eq 14, 3) := by decide +kernel
theorem dX6_seen_9 : decode cX6_seen 9 = .ok (.aload_n 0, 1) := by decide +kernel
theorem dX6_seen_10 : decode cX6_seen 10 = .ok (.getfield 9, 3) := by decide +kernel
theorem dX6_seen_13 : decode cX6_seen 13 = .ok (.iconst 4, 1) := by decide +kernel
theorem dX6_seen_14 : decode cX6_seen 14 = .ok (.iload_n 1, 1) := by decide +kernel
theorem dX6_seen_15 : decode cX6_seen 15 = .ok (.iadd, 1) := by decide +kernel
theorem dX6_seen_16 : decode cX6_seen 16 = .ok (.iaload, 1) := by decide +kernel
theorem dX6_seen_17 : decode cX6_seen 17 = .ok (.goto 9, 3) := by decide +kernel
theorem dX6_seen_20 : decode cX6_seen 20 = .ok (.aload_n 0, 1) := by decide +kernel
theorem dX6_seen_21 : decode cX6_seen 21 = .ok (.ldc 60, 2) := by decide +kernel
theorem dX6_seen_23 : decode cX6_seen 23 = .ok (.invokevirtual 66, 3) := by decide +kernel
theorem dX6_seen_26 : decode cX6_seen 26 = .ok (.ireturn, 1) := by decide +kernel
def bX6_seen_26 (fu : Nat) (σ : mt_St) (y0 : Int32) : Option (Int32 × mt_St) :=
  some (y0, σ)
set_option maxHeartbeats 4000000 in
set_option maxRecDepth 20000 in
theorem vX6_seen_26 {K : mt_C} {fu : Nat} {r : Int32} {σf : mt_St} (hQ : mt_R K (some .int) (some (.int r)) σf) : ∀ (σ : mt_St) (y0 : Int32), mt_V K cX6_seen RX6 2 1 σ 26 [] [.int y0] (bX6_seen_26 fu σ y0 = some (r, σf)) := by
  intro σ y0
  unfold bX6_seen_26
  exact mv_iret hQ dX6_seen_26
def fX6_seen (fu : Nat) (σ : mt_St) (a1 : Int32) : Option (Int32 × mt_St) :=
  mt_ask (fX6_within fu a1 (0 : Int32) (1 : Int32)) fun r1 =>
  if r1 = 0 then
    mt_call (fX6_finding fu σ (-1000001 : Int32)) fun r2 s3 =>
    bX6_seen_26 fu s3 r2
  else
    mt_chk (mt_in ((4 : Int32) + a1) 86) <|
    bX6_seen_26 fu σ (σ 57 (Int32.toNatClampNeg ((4 : Int32) + a1)))
set_option maxHeartbeats 4000000 in
set_option maxRecDepth 20000 in
theorem vX6_seen {K : mt_C} {fu : Nat} {σ : mt_St} {a1 : Int32} {r : Int32} {σf : mt_St} (hQ : mt_R K (some .int) (some (.int r)) σf) : mt_V K cX6_seen RX6 2 1 σ 0 [(0, .ref (mt_adr (kG K) 56)), (1, .int a1)] [] (fX6_seen fu σ a1 = some (r, σf)) := by
  unfold fX6_seen
  refine mv_iload_n 1 dX6_seen_0 rfl rfl ?_
  refine mv_iconst (v := 0) dX6_seen_1 ic_0 ?_
  refine mv_iconst (v := 1) dX6_seen_2 ic_1 ?_
  refine mv_cSri (As := [.int a1, .int (0 : Int32), .int (1 : Int32)]) (st := []) cal_X6_within sta_X6_within ml_X6_70 rfl (by decide) rfl (Nat.le_of_ble_eq_true rfl) dX6_seen_3 (fun r h => co_X6_within h) (fun r1 => ?_)
  refine mv_if_eq 20 dX6_seen_6 (by decide) ?_ ?_
  · refine mv_aload_n 0 dX6_seen_20 rfl rfl ?_
    refine mv_ldc kc_X6_60 dX6_seen_21 ?_
    refine mv_cVwi (As := [.int (-1000001 : Int32)]) (st := []) cal_X6_finding ins_X6_finding ml_X6_66 rfl (by decide) rfl rfl (by decide) rfl (Nat.le_of_ble_eq_true rfl) dX6_seen_23 (fun r s h => co_X6_finding h) (fun r2 s3 => ?_)
    refine mv_sub (lv' := []) [] rfl ?_
    exact vX6_seen_26 hQ s3 r2
  · refine mv_aload_n 0 dX6_seen_9 rfl rfl ?_
    refine mg_X6_0 fl_X6_9 dX6_seen_10 ?_
    refine mv_iconst (v := 4) dX6_seen_13 ic_4 ?_
    refine mv_iload_n 1 dX6_seen_14 rfl rfl ?_
    refine mv_iadd dX6_seen_15 ?_
    refine mv_iald 86 rfl rfl dX6_seen_16 ?_
    refine mv_goto 26 dX6_seen_17 (by decide) ?_
    refine mv_sub (lv' := []) [] rfl ?_
    exact vX6_seen_26 hQ σ (σ 57 (Int32.toNatClampNeg ((4 : Int32) + a1)))
theorem co_X6_seen {l : Launch} {G : mt_G} {fu : Nat} {σ : mt_St} {a1 : Int32} {r : Int32} {σf : mt_St}  (h : fX6_seen fu σ a1 = some (r, σf)) : mt_Con l G yX6_seen cX6_seen 2 (some .int) 1 [.ref (mt_adr G 56), .int a1] σ (some (.int r)) σf :=
  mt_con (by decide) (Nat.le_of_ble_eq_true rfl) (fun K hl hG hQ => by subst hl; subst hG; exact fun _ => vX6_seen  hQ h)
theorem dX6_isPlace_0 : decode cX6_isPlace 0 = .ok (.iload_n 0, 1) := by decide +kernel
theorem dX6_isPlace_1 : decode cX6_isPlace 1 = .ok (.iconst 0, 1) := by decide +kernel
theorem dX6_isPlace_2 : decode cX6_isPlace 2 = .ok (.iconst 5, 1) := by decide +kernel
theorem dX6_isPlace_3 : decode cX6_isPlace 3 = .ok (.invokestatic 70, 3) := by decide +kernel
theorem dX6_isPlace_6 : decode cX6_isPlace 6 = .ok (.ireturn, 1) := by decide +kernel
def fX6_isPlace (fu : Nat) (a1 : Int32) : Option Int32 :=
  mt_ask (fX6_within fu a1 (0 : Int32) (5 : Int32)) fun r1 =>
  mt_chk (mt_b01 r1) (some r1)
set_option maxHeartbeats 4000000 in
set_option maxRecDepth 20000 in
theorem vX6_isPlace {K : mt_C} {fu : Nat} {σ : mt_St} {a1 : Int32} {r : Int32} (hQ : mt_R K (some .boolean) (some (.int r)) σ) : mt_V K cX6_isPlace RX6 1 1 σ 0 [(0, .int a1)] [] (fX6_isPlace fu a1 = some r) := by
  unfold fX6_isPlace
  refine mv_iload_n 0 dX6_isPlace_0 rfl rfl ?_
  refine mv_iconst (v := 0) dX6_isPlace_1 ic_0 ?_
  refine mv_iconst (v := 5) dX6_isPlace_2 ic_5 ?_
  refine mv_cSri (As := [.int a1, .int (0 : Int32), .int (5 : Int32)]) (st := []) cal_X6_within sta_X6_within ml_X6_70 rfl (by decide) rfl (Nat.le_of_ble_eq_true rfl) dX6_isPlace_3 (fun r h => co_X6_within h) (fun r1 => ?_)
  exact mv_zretr hQ dX6_isPlace_6
theorem co_X6_isPlace {l : Launch} {G : mt_G} {fu : Nat} {σ : mt_St} {a1 : Int32} {r : Int32}  (h : fX6_isPlace fu a1 = some r) : mt_Con l G yX6_isPlace cX6_isPlace 1 (some .boolean) 1 [.int a1] σ (some (.int r)) σ :=
  mt_con (by decide) (Nat.le_of_ble_eq_true rfl) (fun K hl hG hQ => by subst hl; subst hG; exact fun _ => vX6_isPlace  hQ h)
theorem dX6_event_0 : decode cX6_event 0 = .ok (.iload_n 1, 1) := by decide +kernel
theorem dX6_event_1 : decode cX6_event 1 = .ok (.invokestatic 82, 3) := by decide +kernel
theorem dX6_event_4 : decode cX6_event 4 = .ok (.ifCond .eq 25, 3) := by decide +kernel
theorem dX6_event_7 : decode cX6_event 7 = .ok (.iload_n 2, 1) := by decide +kernel
theorem dX6_event_8 : decode cX6_event 8 = .ok (.iconst 0, 1) := by decide +kernel
theorem dX6_event_9 : decode cX6_event 9 = .ok (.bipush 12, 2) := by decide +kernel
theorem dX6_event_11 : decode cX6_event 11 = .ok (.invokestatic 70, 3) := by decide +kernel
theorem dX6_event_14 : decode cX6_event 14 = .ok (.ifCond .eq 15, 3) := by decide +kernel
theorem dX6_event_17 : decode cX6_event 17 = .ok (.aload_n 0, 1) := by decide +kernel
theorem dX6_event_18 : decode cX6_event 18 = .ok (.bipush 6, 2) := by decide +kernel
theorem dX6_event_20 : decode cX6_event 20 = .ok (.iload_n 1, 1) := by decide +kernel
theorem dX6_event_21 : decode cX6_event 21 = .ok (.iadd, 1) := by decide +kernel
theorem dX6_event_22 : decode cX6_event 22 = .ok (.iload_n 2, 1) := by decide +kernel
theorem dX6_event_23 : decode cX6_event 23 = .ok (.invokevirtual 78, 3) := by decide +kernel
theorem dX6_event_26 : decode cX6_event 26 = .ok (.goto 9, 3) := by decide +kernel
theorem dX6_event_29 : decode cX6_event 29 = .ok (.aload_n 0, 1) := by decide +kernel
theorem dX6_event_30 : decode cX6_event 30 = .ok (.ldc 60, 2) := by decide +kernel
theorem dX6_event_32 : decode cX6_event 32 = .ok (.invokevirtual 66, 3) := by decide +kernel
theorem dX6_event_35 : decode cX6_event 35 = .ok (.ireturn, 1) := by decide +kernel
def bX6_event_35 (fu : Nat) (σ : mt_St) (y0 : Int32) : Option (Int32 × mt_St) :=
  some (y0, σ)
set_option maxHeartbeats 4000000 in
set_option maxRecDepth 20000 in
theorem vX6_event_35 {K : mt_C} {fu : Nat} {r : Int32} {σf : mt_St} (hQ : mt_R K (some .int) (some (.int r)) σf) : ∀ (σ : mt_St) (y0 : Int32), mt_V K cX6_event RX6 3 2 σ 35 [] [.int y0] (bX6_event_35 fu σ y0 = some (r, σf)) := by
  intro σ y0
  unfold bX6_event_35
  exact mv_iret hQ dX6_event_35
def bX6_event_29 (fu : Nat) (σ : mt_St) : Option (Int32 × mt_St) :=
  mt_call (fX6_finding fu σ (-1000001 : Int32)) fun r1 s2 =>
  bX6_event_35 fu s2 r1
set_option maxHeartbeats 4000000 in
set_option maxRecDepth 20000 in
theorem vX6_event_29 {K : mt_C} {fu : Nat} {r : Int32} {σf : mt_St} (hQ : mt_R K (some .int) (some (.int r)) σf) : ∀ (σ : mt_St), mt_V K cX6_event RX6 3 2 σ 29 [(0, .ref (mt_adr (kG K) 56))] [] (bX6_event_29 fu σ = some (r, σf)) := by
  intro σ
  unfold bX6_event_29
  refine mv_aload_n 0 dX6_event_29 rfl rfl ?_
  refine mv_ldc kc_X6_60 dX6_event_30 ?_
  refine mv_cVwi (As := [.int (-1000001 : Int32)]) (st := []) cal_X6_finding ins_X6_finding ml_X6_66 rfl (by decide) rfl rfl (by decide) rfl (Nat.le_of_ble_eq_true rfl) dX6_event_32 (fun r s h => co_X6_finding h) (fun r1 s2 => ?_)
  refine mv_sub (lv' := []) [] rfl ?_
  exact vX6_event_35 hQ s2 r1
def fX6_event (fu : Nat) (σ : mt_St) (a1 : Int32) (a2 : Int32) : Option (Int32 × mt_St) :=
  mt_ask (fX6_isPlace fu a1) fun r1 =>
  if r1 = 0 then
    bX6_event_29 fu σ
  else
    mt_ask (fX6_within fu a2 (0 : Int32) (12 : Int32)) fun r2 =>
    if r2 = 0 then
      bX6_event_29 fu σ
    else
      mt_call (fX6_become fu σ ((6 : Int32) + a1) a2) fun r3 s4 =>
      bX6_event_35 fu s4 r3
set_option maxHeartbeats 4000000 in
set_option maxRecDepth 20000 in
theorem vX6_event {K : mt_C} {fu : Nat} {σ : mt_St} {a1 : Int32} {a2 : Int32} {r : Int32} {σf : mt_St} (hQ : mt_R K (some .int) (some (.int r)) σf) : mt_V K cX6_event RX6 3 2 σ 0 [(0, .ref (mt_adr (kG K) 56)), (1, .int a1), (2, .int a2)] [] (fX6_event fu σ a1 a2 = some (r, σf)) := by
  unfold fX6_event
  refine mv_iload_n 1 dX6_event_0 rfl rfl ?_
  refine mv_cSri (As := [.int a1]) (st := []) cal_X6_isPlace sta_X6_isPlace ml_X6_82 rfl (by decide) rfl (Nat.le_of_ble_eq_true rfl) dX6_event_1 (fun r h => co_X6_isPlace h) (fun r1 => ?_)
  refine mv_if_eq 29 dX6_event_4 (by decide) ?_ ?_
  · refine mv_sub (lv' := [(0, .ref (mt_adr (kG K) 56))]) [0] rfl ?_
    exact vX6_event_29 hQ σ
  · refine mv_iload_n 2 dX6_event_7 rfl rfl ?_
    refine mv_iconst (v := 0) dX6_event_8 ic_0 ?_
    refine mv_bipush (v := 12) dX6_event_9 bp_12 ?_
    refine mv_cSri (As := [.int a2, .int (0 : Int32), .int (12 : Int32)]) (st := []) cal_X6_within sta_X6_within ml_X6_70 rfl (by decide) rfl (Nat.le_of_ble_eq_true rfl) dX6_event_11 (fun r h => co_X6_within h) (fun r2 => ?_)
    refine mv_if_eq 29 dX6_event_14 (by decide) ?_ ?_
    · refine mv_sub (lv' := [(0, .ref (mt_adr (kG K) 56))]) [0] rfl ?_
      exact vX6_event_29 hQ σ
    · refine mv_aload_n 0 dX6_event_17 rfl rfl ?_
      refine mv_bipush (v := 6) dX6_event_18 bp_6 ?_
      refine mv_iload_n 1 dX6_event_20 rfl rfl ?_
      refine mv_iadd dX6_event_21 ?_
      refine mv_iload_n 2 dX6_event_22 rfl rfl ?_
      refine mv_cVwi (As := [.int ((6 : Int32) + a1), .int a2]) (st := []) cal_X6_become ins_X6_become ml_X6_78 rfl (by decide) rfl rfl (by decide) rfl (Nat.le_of_ble_eq_true rfl) dX6_event_23 (fun r s h => co_X6_become h) (fun r3 s4 => ?_)
      refine mv_goto 35 dX6_event_26 (by decide) ?_
      refine mv_sub (lv' := []) [] rfl ?_
      exact vX6_event_35 hQ s4 r3
theorem co_X6_event {l : Launch} {G : mt_G} {fu : Nat} {σ : mt_St} {a1 : Int32} {a2 : Int32} {r : Int32} {σf : mt_St}  (h : fX6_event fu σ a1 a2 = some (r, σf)) : mt_Con l G yX6_event cX6_event 3 (some .int) 2 [.ref (mt_adr G 56), .int a1, .int a2] σ (some (.int r)) σf :=
  mt_con (by decide) (Nat.le_of_ble_eq_true rfl) (fun K hl hG hQ => by subst hl; subst hG; exact fun _ => vX6_event  hQ h)
theorem dX6_listed_0 : decode cX6_listed 0 = .ok (.iload_n 1, 1) := by decide +kernel
theorem dX6_listed_1 : decode cX6_listed 1 = .ok (.invokestatic 82, 3) := by decide +kernel
theorem dX6_listed_4 : decode cX6_listed 4 = .ok (.ifCond .eq 15, 3) := by decide +kernel
theorem dX6_listed_7 : decode cX6_listed 7 = .ok (.aload_n 0, 1) := by decide +kernel
theorem dX6_listed_8 : decode cX6_listed 8 = .ok (.getfield 9, 3) := by decide +kernel
theorem dX6_listed_11 : decode cX6_listed 11 = .ok (.bipush 6, 2) := by decide +kernel
theorem dX6_listed_13 : decode cX6_listed 13 = .ok (.iload_n 1, 1) := by decide +kernel
theorem dX6_listed_14 : decode cX6_listed 14 = .ok (.iadd, 1) := by decide +kernel
theorem dX6_listed_15 : decode cX6_listed 15 = .ok (.iaload, 1) := by decide +kernel
theorem dX6_listed_16 : decode cX6_listed 16 = .ok (.goto 9, 3) := by decide +kernel
theorem dX6_listed_19 : decode cX6_listed 19 = .ok (.aload_n 0, 1) := by decide +kernel
theorem dX6_listed_20 : decode cX6_listed 20 = .ok (.ldc 60, 2) := by decide +kernel
theorem dX6_listed_22 : decode cX6_listed 22 = .ok (.invokevirtual 66, 3) := by decide +kernel
theorem dX6_listed_25 : decode cX6_listed 25 = .ok (.ireturn, 1) := by decide +kernel
def bX6_listed_25 (fu : Nat) (σ : mt_St) (y0 : Int32) : Option (Int32 × mt_St) :=
  some (y0, σ)
set_option maxHeartbeats 4000000 in
set_option maxRecDepth 20000 in
theorem vX6_listed_25 {K : mt_C} {fu : Nat} {r : Int32} {σf : mt_St} (hQ : mt_R K (some .int) (some (.int r)) σf) : ∀ (σ : mt_St) (y0 : Int32), mt_V K cX6_listed RX6 2 2 σ 25 [] [.int y0] (bX6_listed_25 fu σ y0 = some (r, σf)) := by
  intro σ y0
  unfold bX6_listed_25
  exact mv_iret hQ dX6_listed_25
def fX6_listed (fu : Nat) (σ : mt_St) (a1 : Int32) : Option (Int32 × mt_St) :=
  mt_ask (fX6_isPlace fu a1) fun r1 =>
  if r1 = 0 then
    mt_call (fX6_finding fu σ (-1000001 : Int32)) fun r2 s3 =>
    bX6_listed_25 fu s3 r2
  else
    mt_chk (mt_in ((6 : Int32) + a1) 86) <|
    bX6_listed_25 fu σ (σ 57 (Int32.toNatClampNeg ((6 : Int32) + a1)))
set_option maxHeartbeats 4000000 in
set_option maxRecDepth 20000 in
theorem vX6_listed {K : mt_C} {fu : Nat} {σ : mt_St} {a1 : Int32} {r : Int32} {σf : mt_St} (hQ : mt_R K (some .int) (some (.int r)) σf) : mt_V K cX6_listed RX6 2 2 σ 0 [(0, .ref (mt_adr (kG K) 56)), (1, .int a1)] [] (fX6_listed fu σ a1 = some (r, σf)) := by
  unfold fX6_listed
  refine mv_iload_n 1 dX6_listed_0 rfl rfl ?_
  refine mv_cSri (As := [.int a1]) (st := []) cal_X6_isPlace sta_X6_isPlace ml_X6_82 rfl (by decide) rfl (Nat.le_of_ble_eq_true rfl) dX6_listed_1 (fun r h => co_X6_isPlace h) (fun r1 => ?_)
  refine mv_if_eq 19 dX6_listed_4 (by decide) ?_ ?_
  · refine mv_aload_n 0 dX6_listed_19 rfl rfl ?_
    refine mv_ldc kc_X6_60 dX6_listed_20 ?_
    refine mv_cVwi (As := [.int (-1000001 : Int32)]) (st := []) cal_X6_finding ins_X6_finding ml_X6_66 rfl (by decide) rfl rfl (by decide) rfl (Nat.le_of_ble_eq_true rfl) dX6_listed_22 (fun r s h => co_X6_finding h) (fun r2 s3 => ?_)
    refine mv_sub (lv' := []) [] rfl ?_
    exact vX6_listed_25 hQ s3 r2
  · refine mv_aload_n 0 dX6_listed_7 rfl rfl ?_
    refine mg_X6_0 fl_X6_9 dX6_listed_8 ?_
    refine mv_bipush (v := 6) dX6_listed_11 bp_6 ?_
    refine mv_iload_n 1 dX6_listed_13 rfl rfl ?_
    refine mv_iadd dX6_listed_14 ?_
    refine mv_iald 86 rfl rfl dX6_listed_15 ?_
    refine mv_goto 25 dX6_listed_16 (by decide) ?_
    refine mv_sub (lv' := []) [] rfl ?_
    exact vX6_listed_25 hQ σ (σ 57 (Int32.toNatClampNeg ((6 : Int32) + a1)))
theorem co_X6_listed {l : Launch} {G : mt_G} {fu : Nat} {σ : mt_St} {a1 : Int32} {r : Int32} {σf : mt_St}  (h : fX6_listed fu σ a1 = some (r, σf)) : mt_Con l G yX6_listed cX6_listed 2 (some .int) 2 [.ref (mt_adr G 56), .int a1] σ (some (.int r)) σf :=
  mt_con (by decide) (Nat.le_of_ble_eq_true rfl) (fun K hl hG hQ => by subst hl; subst hG; exact fun _ => vX6_listed  hQ h)
theorem dX6_treatyAt_0 : decode cX6_treatyAt 0 = .ok (.bipush 22, 2) := by decide +kernel
theorem dX6_treatyAt_2 : decode cX6_treatyAt 2 = .ok (.bipush 8, 2) := by decide +kernel
theorem dX6_treatyAt_4 : decode cX6_treatyAt 4 = .ok (.iload_n 0, 1) := by decide +kernel
theorem dX6_treatyAt_5 : decode cX6_treatyAt 5 = .ok (.imul, 1) := by decide +kernel
theorem dX6_treatyAt_6 : decode cX6_treatyAt 6 = .ok (.iadd, 1) := by decide +kernel
theorem dX6_treatyAt_7 : decode cX6_treatyAt 7 = .ok (.iload_n 1, 1) := by decide +kernel
theorem dX6_treatyAt_8 : decode cX6_treatyAt 8 = .ok (.iadd, 1) := by decide +kernel
theorem dX6_treatyAt_9 : decode cX6_treatyAt 9 = .ok (.ireturn, 1) := by decide +kernel
def fX6_treatyAt (fu : Nat) (a1 : Int32) (a2 : Int32) : Option Int32 :=
  some (((22 : Int32) + ((8 : Int32) * a1)) + a2)
set_option maxHeartbeats 4000000 in
set_option maxRecDepth 20000 in
theorem vX6_treatyAt {K : mt_C} {fu : Nat} {σ : mt_St} {a1 : Int32} {a2 : Int32} {r : Int32} (hQ : mt_R K (some .int) (some (.int r)) σ) : mt_V K cX6_treatyAt RX6 2 0 σ 0 [(0, .int a1), (1, .int a2)] [] (fX6_treatyAt fu a1 a2 = some r) := by
  unfold fX6_treatyAt
  refine mv_bipush (v := 22) dX6_treatyAt_0 bp_22 ?_
  refine mv_bipush (v := 8) dX6_treatyAt_2 bp_8 ?_
  refine mv_iload_n 0 dX6_treatyAt_4 rfl rfl ?_
  refine mv_imul dX6_treatyAt_5 ?_
  refine mv_iadd dX6_treatyAt_6 ?_
  refine mv_iload_n 1 dX6_treatyAt_7 rfl rfl ?_
  refine mv_iadd dX6_treatyAt_8 ?_
  exact mv_iretr hQ dX6_treatyAt_9
theorem co_X6_treatyAt {l : Launch} {G : mt_G} {fu : Nat} {σ : mt_St} {a1 : Int32} {a2 : Int32} {r : Int32}  (h : fX6_treatyAt fu a1 a2 = some r) : mt_Con l G yX6_treatyAt cX6_treatyAt 2 (some .int) 0 [.int a1, .int a2] σ (some (.int r)) σ :=
  mt_con (by decide) (Nat.le_of_ble_eq_true rfl) (fun K hl hG hQ => by subst hl; subst hG; exact fun _ => vX6_treatyAt  hQ h)
theorem dX6_treatyIs_0 : decode cX6_treatyIs 0 = .ok (.aload_n 0, 1) := by decide +kernel
theorem dX6_treatyIs_1 : decode cX6_treatyIs 1 = .ok (.getfield 9, 3) := by decide +kernel
theorem dX6_treatyIs_4 : decode cX6_treatyIs 4 = .ok (.iload_n 1, 1) := by decide +kernel
theorem dX6_treatyIs_5 : decode cX6_treatyIs 5 = .ok (.iload_n 2, 1) := by decide +kernel
theorem dX6_treatyIs_6 : decode cX6_treatyIs 6 = .ok (.invokestatic 85, 3) := by decide +kernel
theorem dX6_treatyIs_9 : decode cX6_treatyIs 9 = .ok (.iaload, 1) := by decide +kernel
theorem dX6_treatyIs_10 : decode cX6_treatyIs 10 = .ok (.ireturn, 1) := by decide +kernel
def fX6_treatyIs (fu : Nat) (σ : mt_St) (a1 : Int32) (a2 : Int32) : Option Int32 :=
  mt_ask (fX6_treatyAt fu a1 a2) fun r1 =>
  mt_chk (mt_in r1 86) <|
  some (σ 57 (Int32.toNatClampNeg r1))
set_option maxHeartbeats 4000000 in
set_option maxRecDepth 20000 in
theorem vX6_treatyIs {K : mt_C} {fu : Nat} {σ : mt_St} {a1 : Int32} {a2 : Int32} {r : Int32} (hQ : mt_R K (some .int) (some (.int r)) σ) : mt_V K cX6_treatyIs RX6 3 1 σ 0 [(0, .ref (mt_adr (kG K) 56)), (1, .int a1), (2, .int a2)] [] (fX6_treatyIs fu σ a1 a2 = some r) := by
  unfold fX6_treatyIs
  refine mv_aload_n 0 dX6_treatyIs_0 rfl rfl ?_
  refine mg_X6_0 fl_X6_9 dX6_treatyIs_1 ?_
  refine mv_iload_n 1 dX6_treatyIs_4 rfl rfl ?_
  refine mv_iload_n 2 dX6_treatyIs_5 rfl rfl ?_
  refine mv_cSri (As := [.int a1, .int a2]) (st := [.ref (mt_adr (kG K) 57)]) cal_X6_treatyAt sta_X6_treatyAt ml_X6_85 rfl (by decide) rfl (Nat.le_of_ble_eq_true rfl) dX6_treatyIs_6 (fun r h => co_X6_treatyAt h) (fun r1 => ?_)
  refine mv_iald 86 rfl rfl dX6_treatyIs_9 ?_
  exact mv_iretr hQ dX6_treatyIs_10
theorem co_X6_treatyIs {l : Launch} {G : mt_G} {fu : Nat} {σ : mt_St} {a1 : Int32} {a2 : Int32} {r : Int32}  (h : fX6_treatyIs fu σ a1 a2 = some r) : mt_Con l G yX6_treatyIs cX6_treatyIs 3 (some .int) 1 [.ref (mt_adr G 56), .int a1, .int a2] σ (some (.int r)) σ :=
  mt_con (by decide) (Nat.le_of_ble_eq_true rfl) (fun K hl hG hQ => by subst hl; subst hG; exact fun _ => vX6_treatyIs  hQ h)
theorem dX6_isTreaty_0 : decode cX6_isTreaty 0 = .ok (.iload_n 1, 1) := by decide +kernel
theorem dX6_isTreaty_1 : decode cX6_isTreaty 1 = .ok (.iconst 0, 1) := by decide +kernel
theorem dX6_isTreaty_2 : decode cX6_isTreaty 2 = .ok (.aload_n 0, 1) := by decide +kernel
theorem dX6_isTreaty_3 : decode cX6_isTreaty 3 = .ok (.getfield 9, 3) := by decide +kernel
theorem dX6_isTreaty_6 : decode cX6_isTreaty 6 = .ok (.iconst 1, 1) := by decide +kernel
theorem dX6_isTreaty_7 : decode cX6_isTreaty 7 = .ok (.iaload, 1) := by decide +kernel
theorem dX6_isTreaty_8 : decode cX6_isTreaty 8 = .ok (.iconst 1, 1) := by decide +kernel
theorem dX6_isTreaty_9 : decode cX6_isTreaty 9 = .ok (.isub, 1) := by decide +kernel
theorem dX6_isTreaty_10 : decode cX6_isTreaty 10 = .ok (.invokestatic 70, 3) := by decide +kernel
theorem dX6_isTreaty_13 : decode cX6_isTreaty 13 = .ok (.ireturn, 1) := by decide +kernel
def fX6_isTreaty (fu : Nat) (σ : mt_St) (a1 : Int32) : Option Int32 :=
  mt_ask (fX6_within fu a1 (0 : Int32) ((σ 57 1) - (1 : Int32))) fun r1 =>
  mt_chk (mt_b01 r1) (some r1)
set_option maxHeartbeats 4000000 in
set_option maxRecDepth 20000 in
theorem vX6_isTreaty {K : mt_C} {fu : Nat} {σ : mt_St} {a1 : Int32} {r : Int32} (hQ : mt_R K (some .boolean) (some (.int r)) σ) : mt_V K cX6_isTreaty RX6 2 1 σ 0 [(0, .ref (mt_adr (kG K) 56)), (1, .int a1)] [] (fX6_isTreaty fu σ a1 = some r) := by
  unfold fX6_isTreaty
  refine mv_iload_n 1 dX6_isTreaty_0 rfl rfl ?_
  refine mv_iconst (v := 0) dX6_isTreaty_1 ic_0 ?_
  refine mv_aload_n 0 dX6_isTreaty_2 rfl rfl ?_
  refine mg_X6_0 fl_X6_9 dX6_isTreaty_3 ?_
  refine mv_iconst (v := 1) dX6_isTreaty_6 ic_1 ?_
  refine mv_ialdk 86 1 rfl rfl (by decide) (by decide) dX6_isTreaty_7 ?_
  refine mv_iconst (v := 1) dX6_isTreaty_8 ic_1 ?_
  refine mv_isub dX6_isTreaty_9 ?_
  refine mv_cSri (As := [.int a1, .int (0 : Int32), .int ((σ 57 1) - (1 : Int32))]) (st := []) cal_X6_within sta_X6_within ml_X6_70 rfl (by decide) rfl (Nat.le_of_ble_eq_true rfl) dX6_isTreaty_10 (fun r h => co_X6_within h) (fun r1 => ?_)
  exact mv_zretr hQ dX6_isTreaty_13
theorem co_X6_isTreaty {l : Launch} {G : mt_G} {fu : Nat} {σ : mt_St} {a1 : Int32} {r : Int32}  (h : fX6_isTreaty fu σ a1 = some r) : mt_Con l G yX6_isTreaty cX6_isTreaty 2 (some .boolean) 1 [.ref (mt_adr G 56), .int a1] σ (some (.int r)) σ :=
  mt_con (by decide) (Nat.le_of_ble_eq_true rfl) (fun K hl hG hQ => by subst hl; subst hG; exact fun _ => vX6_isTreaty  hQ h)
theorem dX6_isKind_0 : decode cX6_isKind 0 = .ok (.iload_n 0, 1) := by decide +kernel
theorem dX6_isKind_1 : decode cX6_isKind 1 = .ok (.iconst 0, 1) := by decide +kernel
theorem dX6_isKind_2 : decode cX6_isKind 2 = .ok (.bipush 6, 2) := by decide +kernel
theorem dX6_isKind_4 : decode cX6_isKind 4 = .ok (.invokestatic 70, 3) := by decide +kernel
theorem dX6_isKind_7 : decode cX6_isKind 7 = .ok (.ireturn, 1) := by decide +kernel
def fX6_isKind (fu : Nat) (a1 : Int32) : Option Int32 :=
  mt_ask (fX6_within fu a1 (0 : Int32) (6 : Int32)) fun r1 =>
  mt_chk (mt_b01 r1) (some r1)
set_option maxHeartbeats 4000000 in
set_option maxRecDepth 20000 in
theorem vX6_isKind {K : mt_C} {fu : Nat} {σ : mt_St} {a1 : Int32} {r : Int32} (hQ : mt_R K (some .boolean) (some (.int r)) σ) : mt_V K cX6_isKind RX6 1 1 σ 0 [(0, .int a1)] [] (fX6_isKind fu a1 = some r) := by
  unfold fX6_isKind
  refine mv_iload_n 0 dX6_isKind_0 rfl rfl ?_
  refine mv_iconst (v := 0) dX6_isKind_1 ic_0 ?_
  refine mv_bipush (v := 6) dX6_isKind_2 bp_6 ?_
  refine mv_cSri (As := [.int a1, .int (0 : Int32), .int (6 : Int32)]) (st := []) cal_X6_within sta_X6_within ml_X6_70 rfl (by decide) rfl (Nat.le_of_ble_eq_true rfl) dX6_isKind_4 (fun r h => co_X6_within h) (fun r1 => ?_)
  exact mv_zretr hQ dX6_isKind_7
theorem co_X6_isKind {l : Launch} {G : mt_G} {fu : Nat} {σ : mt_St} {a1 : Int32} {r : Int32}  (h : fX6_isKind fu a1 = some r) : mt_Con l G yX6_isKind cX6_isKind 1 (some .boolean) 1 [.int a1] σ (some (.int r)) σ :=
  mt_con (by decide) (Nat.le_of_ble_eq_true rfl) (fun K hl hG hQ => by subst hl; subst hG; exact fun _ => vX6_isKind  hQ h)
theorem dX6_comes_0 : decode cX6_comes 0 = .ok (.aload_n 0, 1) := by decide +kernel
theorem dX6_comes_1 : decode cX6_comes 1 = .ok (.getfield 9, 3) := by decide +kernel
theorem dX6_comes_4 : decode cX6_comes 4 = .ok (.iconst 1, 1) := by decide +kernel
theorem dX6_comes_5 : decode cX6_comes 5 = .ok (.iaload, 1) := by decide +kernel
theorem dX6_comes_6 : decode cX6_comes 6 = .ok (.istore 4, 2) := by decide +kernel
theorem dX6_comes_8 : decode cX6_comes 8 = .ok (.iconst 0, 1) := by decide +kernel
theorem dX6_comes_9 : decode cX6_comes 9 = .ok (.istore 5, 2) := by decide +kernel
theorem dX6_comes_11 : decode cX6_comes 11 = .ok (.iload 5, 2) := by decide +kernel
theorem dX6_comes_13 : decode cX6_comes 13 = .ok (.bipush 8, 2) := by decide +kernel
theorem dX6_comes_15 : decode cX6_comes 15 = .ok (.if_icmp .ge 22, 3) := by decide +kernel
theorem dX6_comes_18 : decode cX6_comes 18 = .ok (.aload_n 0, 1) := by decide +kernel
theorem dX6_comes_19 : decode cX6_comes 19 = .ok (.getfield 9, 3) := by decide +kernel
theorem dX6_comes_22 : decode cX6_comes 22 = .ok (.iload 4, 2) := by decide +kernel
theorem dX6_comes_24 : decode cX6_comes 24 = .ok (.iload 5, 2) := by decide +kernel
theorem dX6_comes_26 : decode cX6_comes 26 = .ok (.invokestatic 85, 3) := by decide +kernel
theorem dX6_comes_29 : decode cX6_comes 29 = .ok (.iconst 0, 1) := by decide +kernel
theorem dX6_comes_30 : decode cX6_comes 30 = .ok (.iastore, 1) := by decide +kernel
theorem dX6_comes_31 : decode cX6_comes 31 = .ok (.iinc 5 1, 3) := by decide +kernel
theorem dX6_comes_34 : decode cX6_comes 34 = .ok (.goto (-23), 3) := by decide +kernel
theorem dX6_comes_37 : decode cX6_comes 37 = .ok (.aload_n 0, 1) := by decide +kernel
theorem dX6_comes_38 : decode cX6_comes 38 = .ok (.getfield 9, 3) := by decide +kernel
theorem dX6_comes_41 : decode cX6_comes 41 = .ok (.iload 4, 2) := by decide +kernel
theorem dX6_comes_43 : decode cX6_comes 43 = .ok (.iconst 0, 1) := by decide +kernel
theorem dX6_comes_44 : decode cX6_comes 44 = .ok (.invokestatic 85, 3) := by decide +kernel
theorem dX6_comes_47 : decode cX6_comes 47 = .ok (.iload_n 1, 1) := by decide +kernel
theorem dX6_comes_48 : decode cX6_comes 48 = .ok (.iastore, 1) := by decide +kernel
theorem dX6_comes_49 : decode cX6_comes 49 = .ok (.aload_n 0, 1) := by decide +kernel
theorem dX6_comes_50 : decode cX6_comes 50 = .ok (.getfield 9, 3) := by decide +kernel
theorem dX6_comes_53 : decode cX6_comes 53 = .ok (.iload 4, 2) := by decide +kernel
theorem dX6_comes_55 : decode cX6_comes 55 = .ok (.iconst 1, 1) := by decide +kernel
theorem dX6_comes_56 : decode cX6_comes 56 = .ok (.invokestatic 85, 3) := by decide +kernel
theorem dX6_comes_59 : decode cX6_comes 59 = .ok (.iload_n 2, 1) := by decide +kernel
theorem dX6_comes_60 : decode cX6_comes 60 = .ok (.iastore, 1) := by decide +kernel
theorem dX6_comes_61 : decode cX6_comes 61 = .ok (.aload_n 0, 1) := by decide +kernel
theorem dX6_comes_62 : decode cX6_comes 62 = .ok (.getfield 9, 3) := by decide +kernel
theorem dX6_comes_65 : decode cX6_comes 65 = .ok (.iload 4, 2) := by decide +kernel
theorem dX6_comes_67 : decode cX6_comes 67 = .ok (.iconst 2, 1) := by decide +kernel
theorem dX6_comes_68 : decode cX6_comes 68 = .ok (.invokestatic 85, 3) := by decide +kernel
theorem dX6_comes_71 : decode cX6_comes 71 = .ok (.iload_n 3, 1) := by decide +kernel
theorem dX6_comes_72 : decode cX6_comes 72 = .ok (.iastore, 1) := by decide +kernel
theorem dX6_comes_73 : decode cX6_comes 73 = .ok (.aload_n 0, 1) := by decide +kernel
theorem dX6_comes_74 : decode cX6_comes 74 = .ok (.getfield 9, 3) := by decide +kernel
theorem dX6_comes_77 : decode cX6_comes 77 = .ok (.iload 4, 2) := by decide +kernel
theorem dX6_comes_79 : decode cX6_comes 79 = .ok (.iconst 3, 1) := by decide +kernel
theorem dX6_comes_80 : decode cX6_comes 80 = .ok (.invokestatic 85, 3) := by decide +kernel
theorem dX6_comes_83 : decode cX6_comes 83 = .ok (.aload_n 0, 1) := by decide +kernel
theorem dX6_comes_84 : decode cX6_comes 84 = .ok (.getfield 9, 3) := by decide +kernel
theorem dX6_comes_87 : decode cX6_comes 87 = .ok (.iconst 4, 1) := by decide +kernel
theorem dX6_comes_88 : decode cX6_comes 88 = .ok (.iaload, 1) := by decide +kernel
theorem dX6_comes_89 : decode cX6_comes 89 = .ok (.iastore, 1) := by decide +kernel
theorem dX6_comes_90 : decode cX6_comes 90 = .ok (.aload_n 0, 1) := by decide +kernel
theorem dX6_comes_91 : decode cX6_comes 91 = .ok (.getfield 9, 3) := by decide +kernel
theorem dX6_comes_94 : decode cX6_comes 94 = .ok (.iload 4, 2) := by decide +kernel
theorem dX6_comes_96 : decode cX6_comes 96 = .ok (.iconst 4, 1) := by decide +kernel
theorem dX6_comes_97 : decode cX6_comes 97 = .ok (.invokestatic 85, 3) := by decide +kernel
theorem dX6_comes_100 : decode cX6_comes 100 = .ok (.iconst 1, 1) := by decide +kernel
theorem dX6_comes_101 : decode cX6_comes 101 = .ok (.iastore, 1) := by decide +kernel
theorem dX6_comes_102 : decode cX6_comes 102 = .ok (.aload_n 0, 1) := by decide +kernel
theorem dX6_comes_103 : decode cX6_comes 103 = .ok (.getfield 9, 3) := by decide +kernel
theorem dX6_comes_106 : decode cX6_comes 106 = .ok (.iconst 1, 1) := by decide +kernel
theorem dX6_comes_107 : decode cX6_comes 107 = .ok (.dup2, 1) := by decide +kernel
theorem dX6_comes_108 : decode cX6_comes 108 = .ok (.iaload, 1) := by decide +kernel
theorem dX6_comes_109 : decode cX6_comes 109 = .ok (.iconst 1, 1) := by decide +kernel
theorem dX6_comes_110 : decode cX6_comes 110 = .ok (.iadd, 1) := by decide +kernel
theorem dX6_comes_111 : decode cX6_comes 111 = .ok (.iastore, 1) := by decide +kernel
theorem dX6_comes_112 : decode cX6_comes 112 = .ok (.iload 4, 2) := by decide +kernel
theorem dX6_comes_114 : decode cX6_comes 114 = .ok (.ireturn, 1) := by decide +kernel
def bX6_comes_11 (fu : Nat) : Nat → mt_St → Int32 → Int32 → Int32 → Int32 → Int32 → Option (Int32 × mt_St)
  | 0, _, _, _, _, _, _ => none
  | n + 1, σ, x1, x2, x3, x4, x5 =>
    if (8 : Int32) ≤ x5 then
      mt_ask (fX6_treatyAt fu x4 (0 : Int32)) fun r1 =>
      mt_chk (mt_in r1 86) <|
      mt_bnd (mt_up σ 57 (Int32.toNatClampNeg r1) x1) fun s2 =>
      mt_ask (fX6_treatyAt fu x4 (1 : Int32)) fun r3 =>
      mt_chk (mt_in r3 86) <|
      mt_bnd (mt_up s2 57 (Int32.toNatClampNeg r3) x2) fun s4 =>
      mt_ask (fX6_treatyAt fu x4 (2 : Int32)) fun r5 =>
      mt_chk (mt_in r5 86) <|
      mt_bnd (mt_up s4 57 (Int32.toNatClampNeg r5) x3) fun s6 =>
      mt_ask (fX6_treatyAt fu x4 (3 : Int32)) fun r7 =>
      mt_chk (mt_in r7 86) <|
      mt_bnd (mt_up s6 57 (Int32.toNatClampNeg r7) (s6 57 4)) fun s8 =>
      mt_ask (fX6_treatyAt fu x4 (4 : Int32)) fun r9 =>
      mt_chk (mt_in r9 86) <|
      mt_bnd (mt_up s8 57 (Int32.toNatClampNeg r9) (1 : Int32)) fun s10 =>
      mt_bnd (mt_up s10 57 1 ((s10 57 1) + (1 : Int32))) fun s11 =>
      some (x4, s11)
    else
      mt_ask (fX6_treatyAt fu x4 x5) fun r12 =>
      mt_chk (mt_in r12 86) <|
      mt_bnd (mt_up σ 57 (Int32.toNatClampNeg r12) (0 : Int32)) fun s13 =>
      bX6_comes_11 fu n s13 x1 x2 x3 x4 (x5 + 1)
set_option maxHeartbeats 4000000 in
set_option maxRecDepth 20000 in
theorem vX6_comes_11 {K : mt_C} {fu : Nat} {r : Int32} {σf : mt_St} (hQ : mt_R K (some .int) (some (.int r)) σf) : ∀ (n : Nat) (σ : mt_St) (x1 : Int32) (x2 : Int32) (x3 : Int32) (x4 : Int32) (x5 : Int32), mt_V K cX6_comes RX6 6 1 σ 11 [(0, .ref (mt_adr (kG K) 56)), (1, .int x1), (2, .int x2), (3, .int x3), (4, .int x4), (5, .int x5)] [] (bX6_comes_11 fu n σ x1 x2 x3 x4 x5 = some (r, σf)) := by
  intro n
  induction n with
  | zero => intro σ x1 x2 x3 x4 x5; intro hP; unfold bX6_comes_11 at hP; cases hP
  | succ n ih =>
    intro σ x1 x2 x3 x4 x5
    unfold bX6_comes_11
    refine mv_iload 5 dX6_comes_11 rfl ?_
    refine mv_bipush (v := 8) dX6_comes_13 bp_8 ?_
    refine mv_icmp_ge 37 dX6_comes_15 (by decide) ?_ ?_
    · refine mv_aload_n 0 dX6_comes_37 rfl rfl ?_
      refine mg_X6_0 fl_X6_9 dX6_comes_38 ?_
      refine mv_iload 4 dX6_comes_41 rfl ?_
      refine mv_iconst (v := 0) dX6_comes_43 ic_0 ?_
      refine mv_cSri (As := [.int x4, .int (0 : Int32)]) (st := [.ref (mt_adr (kG K) 57)]) cal_X6_treatyAt sta_X6_treatyAt ml_X6_85 rfl (by decide) rfl (Nat.le_of_ble_eq_true rfl) dX6_comes_44 (fun r h => co_X6_treatyAt h) (fun r1 => ?_)
      refine mv_iload_n 1 dX6_comes_47 rfl rfl ?_
      refine mv_iast 86 rfl rfl dX6_comes_48 (fun s2 => ?_)
      refine mv_aload_n 0 dX6_comes_49 rfl rfl ?_
      refine mg_X6_0 fl_X6_9 dX6_comes_50 ?_
      refine mv_iload 4 dX6_comes_53 rfl ?_
      refine mv_iconst (v := 1) dX6_comes_55 ic_1 ?_
      refine mv_cSri (As := [.int x4, .int (1 : Int32)]) (st := [.ref (mt_adr (kG K) 57)]) cal_X6_treatyAt sta_X6_treatyAt ml_X6_85 rfl (by decide) rfl (Nat.le_of_ble_eq_true rfl) dX6_comes_56 (fun r h => co_X6_treatyAt h) (fun r3 => ?_)
      refine mv_iload_n 2 dX6_comes_59 rfl rfl ?_
      refine mv_iast 86 rfl rfl dX6_comes_60 (fun s4 => ?_)
      refine mv_aload_n 0 dX6_comes_61 rfl rfl ?_
      refine mg_X6_0 fl_X6_9 dX6_comes_62 ?_
      refine mv_iload 4 dX6_comes_65 rfl ?_
      refine mv_iconst (v := 2) dX6_comes_67 ic_2 ?_
      refine mv_cSri (As := [.int x4, .int (2 : Int32)]) (st := [.ref (mt_adr (kG K) 57)]) cal_X6_treatyAt sta_X6_treatyAt ml_X6_85 rfl (by decide) rfl (Nat.le_of_ble_eq_true rfl) dX6_comes_68 (fun r h => co_X6_treatyAt h) (fun r5 => ?_)
      refine mv_iload_n 3 dX6_comes_71 rfl rfl ?_
      refine mv_iast 86 rfl rfl dX6_comes_72 (fun s6 => ?_)
      refine mv_aload_n 0 dX6_comes_73 rfl rfl ?_
      refine mg_X6_0 fl_X6_9 dX6_comes_74 ?_
      refine mv_iload 4 dX6_comes_77 rfl ?_
      refine mv_iconst (v := 3) dX6_comes_79 ic_3 ?_
      refine mv_cSri (As := [.int x4, .int (3 : Int32)]) (st := [.ref (mt_adr (kG K) 57)]) cal_X6_treatyAt sta_X6_treatyAt ml_X6_85 rfl (by decide) rfl (Nat.le_of_ble_eq_true rfl) dX6_comes_80 (fun r h => co_X6_treatyAt h) (fun r7 => ?_)
      refine mv_aload_n 0 dX6_comes_83 rfl rfl ?_
      refine mg_X6_0 fl_X6_9 dX6_comes_84 ?_
      refine mv_iconst (v := 4) dX6_comes_87 ic_4 ?_
      refine mv_ialdk 86 4 rfl rfl (by decide) (by decide) dX6_comes_88 ?_
      refine mv_iast 86 rfl rfl dX6_comes_89 (fun s8 => ?_)
      refine mv_aload_n 0 dX6_comes_90 rfl rfl ?_
      refine mg_X6_0 fl_X6_9 dX6_comes_91 ?_
      refine mv_iload 4 dX6_comes_94 rfl ?_
      refine mv_iconst (v := 4) dX6_comes_96 ic_4 ?_
      refine mv_cSri (As := [.int x4, .int (4 : Int32)]) (st := [.ref (mt_adr (kG K) 57)]) cal_X6_treatyAt sta_X6_treatyAt ml_X6_85 rfl (by decide) rfl (Nat.le_of_ble_eq_true rfl) dX6_comes_97 (fun r h => co_X6_treatyAt h) (fun r9 => ?_)
      refine mv_iconst (v := 1) dX6_comes_100 ic_1 ?_
      refine mv_iast 86 rfl rfl dX6_comes_101 (fun s10 => ?_)
      refine mv_aload_n 0 dX6_comes_102 rfl rfl ?_
      refine mg_X6_0 fl_X6_9 dX6_comes_103 ?_
      refine mv_iconst (v := 1) dX6_comes_106 ic_1 ?_
      refine mv_dup2 dX6_comes_107 rfl rfl ?_
      refine mv_ialdk 86 1 rfl rfl (by decide) (by decide) dX6_comes_108 ?_
      refine mv_iconst (v := 1) dX6_comes_109 ic_1 ?_
      refine mv_iadd dX6_comes_110 ?_
      refine mv_iastk 86 1 rfl rfl (by decide) (by decide) dX6_comes_111 (fun s11 => ?_)
      refine mv_iload 4 dX6_comes_112 rfl ?_
      exact mv_iret hQ dX6_comes_114
    · refine mv_aload_n 0 dX6_comes_18 rfl rfl ?_
      refine mg_X6_0 fl_X6_9 dX6_comes_19 ?_
      refine mv_iload 4 dX6_comes_22 rfl ?_
      refine mv_iload 5 dX6_comes_24 rfl ?_
      refine mv_cSri (As := [.int x4, .int x5]) (st := [.ref (mt_adr (kG K) 57)]) cal_X6_treatyAt sta_X6_treatyAt ml_X6_85 rfl (by decide) rfl (Nat.le_of_ble_eq_true rfl) dX6_comes_26 (fun r h => co_X6_treatyAt h) (fun r12 => ?_)
      refine mv_iconst (v := 0) dX6_comes_29 ic_0 ?_
      refine mv_iast 86 rfl rfl dX6_comes_30 (fun s13 => ?_)
      refine mv_iinc (k0 := 5) (v := x5 + 1) (lv' := [(0, .ref (mt_adr (kG K) 56)), (1, .int x1), (2, .int x2), (3, .int x3), (4, .int x4), (5, .int (x5 + 1))]) [1, 2, 3, 4, 5, 0] dX6_comes_31 rfl (mt_inc ic_1) (by decide) rfl ?_
      refine mv_goto 11 dX6_comes_34 (by decide) ?_
      exact ih s13 x1 x2 x3 x4 (x5 + 1)
def fX6_comes (fu : Nat) (σ : mt_St) (a1 : Int32) (a2 : Int32) (a3 : Int32) : Option (Int32 × mt_St) :=
  bX6_comes_11 fu fu σ a1 a2 a3 (σ 57 1) (0 : Int32)
set_option maxHeartbeats 4000000 in
set_option maxRecDepth 20000 in
theorem vX6_comes {K : mt_C} {fu : Nat} {σ : mt_St} {a1 : Int32} {a2 : Int32} {a3 : Int32} {r : Int32} {σf : mt_St} (hQ : mt_R K (some .int) (some (.int r)) σf) : mt_V K cX6_comes RX6 6 1 σ 0 [(0, .ref (mt_adr (kG K) 56)), (1, .int a1), (2, .int a2), (3, .int a3)] [] (fX6_comes fu σ a1 a2 a3 = some (r, σf)) := by
  unfold fX6_comes
  refine mv_aload_n 0 dX6_comes_0 rfl rfl ?_
  refine mg_X6_0 fl_X6_9 dX6_comes_1 ?_
  refine mv_iconst (v := 1) dX6_comes_4 ic_1 ?_
  refine mv_ialdk 86 1 rfl rfl (by decide) (by decide) dX6_comes_5 ?_
  refine mv_istore (lv' := [(0, .ref (mt_adr (kG K) 56)), (1, .int a1), (2, .int a2), (3, .int a3), (4, .int (σ 57 1))]) [1, 2, 3, 4, 0] dX6_comes_6 (by decide) rfl ?_
  refine mv_iconst (v := 0) dX6_comes_8 ic_0 ?_
  refine mv_istore (lv' := [(0, .ref (mt_adr (kG K) 56)), (1, .int a1), (2, .int a2), (3, .int a3), (4, .int (σ 57 1)), (5, .int (0 : Int32))]) [1, 2, 3, 4, 5, 0] dX6_comes_9 (by decide) rfl ?_
  exact vX6_comes_11 hQ fu σ a1 a2 a3 (σ 57 1) (0 : Int32)
theorem co_X6_comes {l : Launch} {G : mt_G} {fu : Nat} {σ : mt_St} {a1 : Int32} {a2 : Int32} {a3 : Int32} {r : Int32} {σf : mt_St}  (h : fX6_comes fu σ a1 a2 a3 = some (r, σf)) : mt_Con l G yX6_comes cX6_comes 6 (some .int) 1 [.ref (mt_adr G 56), .int a1, .int a2, .int a3] σ (some (.int r)) σf :=
  mt_con (by decide) (Nat.le_of_ble_eq_true rfl) (fun K hl hG hQ => by subst hl; subst hG; exact fun _ => vX6_comes  hQ h)
theorem dX6_treaty_0 : decode cX6_treaty 0 = .ok (.iload_n 1, 1) := by decide +kernel
theorem dX6_treaty_1 : decode cX6_treaty 1 = .ok (.invokestatic 88, 3) := by decide +kernel
theorem dX6_treaty_4 : decode cX6_treaty 4 = .ok (.ifCond .eq 22, 3) := by decide +kernel
theorem dX6_treaty_7 : decode cX6_treaty 7 = .ok (.iload_n 2, 1) := by decide +kernel
theorem dX6_treaty_8 : decode cX6_treaty 8 = .ok (.invokestatic 91, 3) := by decide +kernel
theorem dX6_treaty_11 : decode cX6_treaty 11 = .ok (.ifCond .eq 15, 3) := by decide +kernel
theorem dX6_treaty_14 : decode cX6_treaty 14 = .ok (.iload_n 3, 1) := by decide +kernel
theorem dX6_treaty_15 : decode cX6_treaty 15 = .ok (.invokestatic 91, 3) := by decide +kernel
theorem dX6_treaty_18 : decode cX6_treaty 18 = .ok (.ifCond .eq 8, 3) := by decide +kernel
theorem dX6_treaty_21 : decode cX6_treaty 21 = .ok (.iload_n 2, 1) := by decide +kernel
theorem dX6_treaty_22 : decode cX6_treaty 22 = .ok (.iload_n 3, 1) := by decide +kernel
theorem dX6_treaty_23 : decode cX6_treaty 23 = .ok (.if_icmp .ne 10, 3) := by decide +kernel
theorem dX6_treaty_26 : decode cX6_treaty 26 = .ok (.aload_n 0, 1) := by decide +kernel
theorem dX6_treaty_27 : decode cX6_treaty 27 = .ok (.ldc 60, 2) := by decide +kernel
theorem dX6_treaty_29 : decode cX6_treaty 29 = .ok (.invokevirtual 66, 3) := by decide +kernel
theorem dX6_treaty_32 : decode cX6_treaty 32 = .ok (.ireturn, 1) := by decide +kernel
theorem dX6_treaty_33 : decode cX6_treaty 33 = .ok (.aload_n 0, 1) := by decide +kernel
theorem dX6_treaty_34 : decode cX6_treaty 34 = .ok (.getfield 9, 3) := by decide +kernel
theorem dX6_treaty_37 : decode cX6_treaty 37 = .ok (.iconst 1, 1) := by decide +kernel
theorem dX6_treaty_38 : decode cX6_treaty 38 = .ok (.iaload, 1) := by decide +kernel
theorem dX6_treaty_39 : decode cX6_treaty 39 = .ok (.bipush 8, 2) := by decide +kernel
theorem dX6_treaty_41 : decode cX6_treaty 41 = .ok (.if_icmp .ne 12, 3) := by decide +kernel
theorem dX6_treaty_44 : decode cX6_treaty 44 = .ok (.aload_n 0, 1) := by decide +kernel
theorem dX6_treaty_45 : decode cX6_treaty 45 = .ok (.ldc 94, 2) := by decide +kernel
theorem dX6_treaty_47 : decode cX6_treaty 47 = .ok (.invokevirtual 66, 3) := by decide +kernel
theorem dX6_treaty_50 : decode cX6_treaty 50 = .ok (.goto 10, 3) := by decide +kernel
theorem dX6_treaty_53 : decode cX6_treaty 53 = .ok (.aload_n 0, 1) := by decide +kernel
theorem dX6_treaty_54 : decode cX6_treaty 54 = .ok (.iload_n 1, 1) := by decide +kernel
theorem dX6_treaty_55 : decode cX6_treaty 55 = .ok (.iload_n 2, 1) := by decide +kernel
theorem dX6_treaty_56 : decode cX6_treaty 56 = .ok (.iload_n 3, 1) := by decide +kernel
theorem dX6_treaty_57 : decode cX6_treaty 57 = .ok (.invokevirtual 95, 3) := by decide +kernel
theorem dX6_treaty_60 : decode cX6_treaty 60 = .ok (.ireturn, 1) := by decide +kernel
def bX6_treaty_60 (fu : Nat) (σ : mt_St) (y0 : Int32) : Option (Int32 × mt_St) :=
  some (y0, σ)
set_option maxHeartbeats 4000000 in
set_option maxRecDepth 20000 in
theorem vX6_treaty_60 {K : mt_C} {fu : Nat} {r : Int32} {σf : mt_St} (hQ : mt_R K (some .int) (some (.int r)) σf) : ∀ (σ : mt_St) (y0 : Int32), mt_V K cX6_treaty RX6 4 2 σ 60 [] [.int y0] (bX6_treaty_60 fu σ y0 = some (r, σf)) := by
  intro σ y0
  unfold bX6_treaty_60
  exact mv_iret hQ dX6_treaty_60
def bX6_treaty_26 (fu : Nat) (σ : mt_St) : Option (Int32 × mt_St) :=
  mt_call (fX6_finding fu σ (-1000001 : Int32)) fun r1 s2 =>
  some (r1, s2)
set_option maxHeartbeats 4000000 in
set_option maxRecDepth 20000 in
theorem vX6_treaty_26 {K : mt_C} {fu : Nat} {r : Int32} {σf : mt_St} (hQ : mt_R K (some .int) (some (.int r)) σf) : ∀ (σ : mt_St), mt_V K cX6_treaty RX6 4 2 σ 26 [(0, .ref (mt_adr (kG K) 56))] [] (bX6_treaty_26 fu σ = some (r, σf)) := by
  intro σ
  unfold bX6_treaty_26
  refine mv_aload_n 0 dX6_treaty_26 rfl rfl ?_
  refine mv_ldc kc_X6_60 dX6_treaty_27 ?_
  refine mv_cVwi (As := [.int (-1000001 : Int32)]) (st := []) cal_X6_finding ins_X6_finding ml_X6_66 rfl (by decide) rfl rfl (by decide) rfl (Nat.le_of_ble_eq_true rfl) dX6_treaty_29 (fun r s h => co_X6_finding h) (fun r1 s2 => ?_)
  exact mv_iret hQ dX6_treaty_32
def fX6_treaty (fu : Nat) (σ : mt_St) (a1 : Int32) (a2 : Int32) (a3 : Int32) : Option (Int32 × mt_St) :=
  mt_ask (fX6_isKind fu a1) fun r1 =>
  if r1 = 0 then
    bX6_treaty_26 fu σ
  else
    mt_ask (fX6_isPower fu a2) fun r2 =>
    if r2 = 0 then
      bX6_treaty_26 fu σ
    else
      mt_ask (fX6_isPower fu a3) fun r3 =>
      if r3 = 0 then
        bX6_treaty_26 fu σ
      else
        if a2 = a3 then
          bX6_treaty_26 fu σ
        else
          if (σ 57 1) = (8 : Int32) then
            mt_call (fX6_finding fu σ (-1000002 : Int32)) fun r6 s7 =>
            bX6_treaty_60 fu s7 r6
          else
            mt_call (fX6_comes fu σ a1 a2 a3) fun r4 s5 =>
            bX6_treaty_60 fu s5 r4
set_option maxHeartbeats 4000000 in
set_option maxRecDepth 20000 in
theorem vX6_treaty {K : mt_C} {fu : Nat} {σ : mt_St} {a1 : Int32} {a2 : Int32} {a3 : Int32} {r : Int32} {σf : mt_St} (hQ : mt_R K (some .int) (some (.int r)) σf) : mt_V K cX6_treaty RX6 4 2 σ 0 [(0, .ref (mt_adr (kG K) 56)), (1, .int a1), (2, .int a2), (3, .int a3)] [] (fX6_treaty fu σ a1 a2 a3 = some (r, σf)) := by
  unfold fX6_treaty
  refine mv_iload_n 1 dX6_treaty_0 rfl rfl ?_
  refine mv_cSri (As := [.int a1]) (st := []) cal_X6_isKind sta_X6_isKind ml_X6_88 rfl (by decide) rfl (Nat.le_of_ble_eq_true rfl) dX6_treaty_1 (fun r h => co_X6_isKind h) (fun r1 => ?_)
  refine mv_if_eq 26 dX6_treaty_4 (by decide) ?_ ?_
  · refine mv_sub (lv' := [(0, .ref (mt_adr (kG K) 56))]) [0] rfl ?_
    exact vX6_treaty_26 hQ σ
  · refine mv_iload_n 2 dX6_treaty_7 rfl rfl ?_
    refine mv_cSri (As := [.int a2]) (st := []) cal_X6_isPower sta_X6_isPower ml_X6_91 rfl (by decide) rfl (Nat.le_of_ble_eq_true rfl) dX6_treaty_8 (fun r h => co_X6_isPower h) (fun r2 => ?_)
    refine mv_if_eq 26 dX6_treaty_11 (by decide) ?_ ?_
    · refine mv_sub (lv' := [(0, .ref (mt_adr (kG K) 56))]) [0] rfl ?_
      exact vX6_treaty_26 hQ σ
    · refine mv_iload_n 3 dX6_treaty_14 rfl rfl ?_
      refine mv_cSri (As := [.int a3]) (st := []) cal_X6_isPower sta_X6_isPower ml_X6_91 rfl (by decide) rfl (Nat.le_of_ble_eq_true rfl) dX6_treaty_15 (fun r h => co_X6_isPower h) (fun r3 => ?_)
      refine mv_if_eq 26 dX6_treaty_18 (by decide) ?_ ?_
      · refine mv_sub (lv' := [(0, .ref (mt_adr (kG K) 56))]) [0] rfl ?_
        exact vX6_treaty_26 hQ σ
      · refine mv_iload_n 2 dX6_treaty_21 rfl rfl ?_
        refine mv_iload_n 3 dX6_treaty_22 rfl rfl ?_
        refine mv_icmp_ne 33 dX6_treaty_23 (by decide) ?_ ?_
        · refine mv_aload_n 0 dX6_treaty_33 rfl rfl ?_
          refine mg_X6_0 fl_X6_9 dX6_treaty_34 ?_
          refine mv_iconst (v := 1) dX6_treaty_37 ic_1 ?_
          refine mv_ialdk 86 1 rfl rfl (by decide) (by decide) dX6_treaty_38 ?_
          refine mv_bipush (v := 8) dX6_treaty_39 bp_8 ?_
          refine mv_icmp_ne 53 dX6_treaty_41 (by decide) ?_ ?_
          · refine mv_aload_n 0 dX6_treaty_53 rfl rfl ?_
            refine mv_iload_n 1 dX6_treaty_54 rfl rfl ?_
            refine mv_iload_n 2 dX6_treaty_55 rfl rfl ?_
            refine mv_iload_n 3 dX6_treaty_56 rfl rfl ?_
            refine mv_cVwi (As := [.int a1, .int a2, .int a3]) (st := []) cal_X6_comes ins_X6_comes ml_X6_95 rfl (by decide) rfl rfl (by decide) rfl (Nat.le_of_ble_eq_true rfl) dX6_treaty_57 (fun r s h => co_X6_comes h) (fun r4 s5 => ?_)
            refine mv_sub (lv' := []) [] rfl ?_
            exact vX6_treaty_60 hQ s5 r4
          · refine mv_aload_n 0 dX6_treaty_44 rfl rfl ?_
            refine mv_ldc kc_X6_94 dX6_treaty_45 ?_
            refine mv_cVwi (As := [.int (-1000002 : Int32)]) (st := []) cal_X6_finding ins_X6_finding ml_X6_66 rfl (by decide) rfl rfl (by decide) rfl (Nat.le_of_ble_eq_true rfl) dX6_treaty_47 (fun r s h => co_X6_finding h) (fun r6 s7 => ?_)
            refine mv_goto 60 dX6_treaty_50 (by decide) ?_
            refine mv_sub (lv' := []) [] rfl ?_
            exact vX6_treaty_60 hQ s7 r6
        · refine mv_sub (lv' := [(0, .ref (mt_adr (kG K) 56))]) [0] rfl ?_
          exact vX6_treaty_26 hQ σ
theorem co_X6_treaty {l : Launch} {G : mt_G} {fu : Nat} {σ : mt_St} {a1 : Int32} {a2 : Int32} {a3 : Int32} {r : Int32} {σf : mt_St}  (h : fX6_treaty fu σ a1 a2 a3 = some (r, σf)) : mt_Con l G yX6_treaty cX6_treaty 4 (some .int) 2 [.ref (mt_adr G 56), .int a1, .int a2, .int a3] σ (some (.int r)) σf :=
  mt_con (by decide) (Nat.le_of_ble_eq_true rfl) (fun K hl hG hQ => by subst hl; subst hG; exact fun _ => vX6_treaty  hQ h)
theorem dX6_bears_0 : decode cX6_bears 0 = .ok (.aload_n 0, 1) := by decide +kernel
theorem dX6_bears_1 : decode cX6_bears 1 = .ok (.iload_n 1, 1) := by decide +kernel
theorem dX6_bears_2 : decode cX6_bears 2 = .ok (.iconst 5, 1) := by decide +kernel
theorem dX6_bears_3 : decode cX6_bears 3 = .ok (.invokevirtual 99, 3) := by decide +kernel
theorem dX6_bears_6 : decode cX6_bears 6 = .ok (.bipush 10, 2) := by decide +kernel
theorem dX6_bears_8 : decode cX6_bears 8 = .ok (.if_icmp .lt 7, 3) := by decide +kernel
theorem dX6_bears_11 : decode cX6_bears 11 = .ok (.iconst 1, 1) := by decide +kernel
theorem dX6_bears_12 : decode cX6_bears 12 = .ok (.goto 4, 3) := by decide +kernel
theorem dX6_bears_15 : decode cX6_bears 15 = .ok (.iconst 0, 1) := by decide +kernel
theorem dX6_bears_16 : decode cX6_bears 16 = .ok (.istore_n 2, 1) := by decide +kernel
theorem dX6_bears_17 : decode cX6_bears 17 = .ok (.aload_n 0, 1) := by decide +kernel
theorem dX6_bears_18 : decode cX6_bears 18 = .ok (.iload_n 1, 1) := by decide +kernel
theorem dX6_bears_19 : decode cX6_bears 19 = .ok (.iconst 0, 1) := by decide +kernel
theorem dX6_bears_20 : decode cX6_bears 20 = .ok (.invokevirtual 99, 3) := by decide +kernel
theorem dX6_bears_23 : decode cX6_bears 23 = .ok (.tableswitch 76 1 6 #[37, 43, 45, 47, 73, 39], 37) := by decide +kernel
theorem dX6_bears_60 : decode cX6_bears 60 = .ok (.iload_n 2, 1) := by decide +kernel
theorem dX6_bears_61 : decode cX6_bears 61 = .ok (.ireturn, 1) := by decide +kernel
theorem dX6_bears_62 : decode cX6_bears 62 = .ok (.iload_n 2, 1) := by decide +kernel
theorem dX6_bears_63 : decode cX6_bears 63 = .ok (.iconst 2, 1) := by decide +kernel
theorem dX6_bears_64 : decode cX6_bears 64 = .ok (.iadd, 1) := by decide +kernel
theorem dX6_bears_65 : decode cX6_bears 65 = .ok (.ireturn, 1) := by decide +kernel
theorem dX6_bears_66 : decode cX6_bears 66 = .ok (.iconst 1, 1) := by decide +kernel
theorem dX6_bears_67 : decode cX6_bears 67 = .ok (.ireturn, 1) := by decide +kernel
theorem dX6_bears_68 : decode cX6_bears 68 = .ok (.iconst 2, 1) := by decide +kernel
theorem dX6_bears_69 : decode cX6_bears 69 = .ok (.ireturn, 1) := by decide +kernel
theorem dX6_bears_70 : decode cX6_bears 70 = .ok (.aload_n 0, 1) := by decide +kernel
theorem dX6_bears_71 : decode cX6_bears 71 = .ok (.iload_n 1, 1) := by decide +kernel
theorem dX6_bears_72 : decode cX6_bears 72 = .ok (.iconst 3, 1) := by decide +kernel
theorem dX6_bears_73 : decode cX6_bears 73 = .ok (.invokevirtual 99, 3) := by decide +kernel
theorem dX6_bears_76 : decode cX6_bears 76 = .ok (.aload_n 0, 1) := by decide +kernel
theorem dX6_bears_77 : decode cX6_bears 77 = .ok (.getfield 9, 3) := by decide +kernel
theorem dX6_bears_80 : decode cX6_bears 80 = .ok (.iconst 5, 1) := by decide +kernel
theorem dX6_bears_81 : decode cX6_bears 81 = .ok (.iaload, 1) := by decide +kernel
theorem dX6_bears_82 : decode cX6_bears 82 = .ok (.iand, 1) := by decide +kernel
theorem dX6_bears_83 : decode cX6_bears 83 = .ok (.bipush 11, 2) := by decide +kernel
theorem dX6_bears_85 : decode cX6_bears 85 = .ok (.ishr, 1) := by decide +kernel
theorem dX6_bears_86 : decode cX6_bears 86 = .ok (.iconst 1, 1) := by decide +kernel
theorem dX6_bears_87 : decode cX6_bears 87 = .ok (.if_icmp .ne 7, 3) := by decide +kernel
theorem dX6_bears_90 : decode cX6_bears 90 = .ok (.iconst 0, 1) := by decide +kernel
theorem dX6_bears_91 : decode cX6_bears 91 = .ok (.goto 4, 3) := by decide +kernel
theorem dX6_bears_94 : decode cX6_bears 94 = .ok (.iconst 2, 1) := by decide +kernel
theorem dX6_bears_95 : decode cX6_bears 95 = .ok (.ireturn, 1) := by decide +kernel
theorem dX6_bears_96 : decode cX6_bears 96 = .ok (.bipush 12, 2) := by decide +kernel
theorem dX6_bears_98 : decode cX6_bears 98 = .ok (.ireturn, 1) := by decide +kernel
theorem dX6_bears_99 : decode cX6_bears 99 = .ok (.iconst 0, 1) := by decide +kernel
theorem dX6_bears_100 : decode cX6_bears 100 = .ok (.ireturn, 1) := by decide +kernel
def bX6_bears_95 (fu : Nat) (σ : mt_St) (y0 : Int32) : Option Int32 :=
  some y0
set_option maxHeartbeats 4000000 in
set_option maxRecDepth 20000 in
theorem vX6_bears_95 {K : mt_C} {fu : Nat} {σ : mt_St} {r : Int32} (hQ : mt_R K (some .int) (some (.int r)) σ) : ∀ (y0 : Int32), mt_V K cX6_bears RX6 3 2 σ 95 [] [.int y0] (bX6_bears_95 fu σ y0 = some r) := by
  intro y0
  unfold bX6_bears_95
  exact mv_iretr hQ dX6_bears_95
def bX6_bears_16 (fu : Nat) (σ : mt_St) (x1 : Int32) (y0 : Int32) : Option Int32 :=
  mt_ask (fX6_treatyIs fu σ x1 (0 : Int32)) fun r1 =>
  if r1 = 1 then
    some y0
  else
  if r1 = 2 then
    some (1 : Int32)
  else
  if r1 = 3 then
    some (2 : Int32)
  else
  if r1 = 4 then
    mt_ask (fX6_treatyIs fu σ x1 (3 : Int32)) fun r2 =>
    if ((r2 &&& (σ 57 5)) >>> ((11 : Int32) &&& 31)) = (1 : Int32) then
      bX6_bears_95 fu σ (0 : Int32)
    else
      bX6_bears_95 fu σ (2 : Int32)
  else
  if r1 = 5 then
    some (12 : Int32)
  else
  if r1 = 6 then
    some (y0 + (2 : Int32))
  else
  some (0 : Int32)
set_option maxHeartbeats 4000000 in
set_option maxRecDepth 20000 in
theorem vX6_bears_16 {K : mt_C} {fu : Nat} {σ : mt_St} {r : Int32} (hQ : mt_R K (some .int) (some (.int r)) σ) : ∀ (x1 : Int32) (y0 : Int32), mt_V K cX6_bears RX6 3 2 σ 16 [(0, .ref (mt_adr (kG K) 56)), (1, .int x1)] [.int y0] (bX6_bears_16 fu σ x1 y0 = some r) := by
  intro x1 y0
  unfold bX6_bears_16
  refine mv_istore_n (lv' := [(0, .ref (mt_adr (kG K) 56)), (1, .int x1), (2, .int y0)]) [1, 2, 0] dX6_bears_16 rfl (by decide) rfl ?_
  refine mv_aload_n 0 dX6_bears_17 rfl rfl ?_
  refine mv_iload_n 1 dX6_bears_18 rfl rfl ?_
  refine mv_iconst (v := 0) dX6_bears_19 ic_0 ?_
  refine mv_cVri (As := [.int x1, .int (0 : Int32)]) (st := []) cal_X6_treatyIs ins_X6_treatyIs ml_X6_99 rfl (by decide) rfl rfl (by decide) rfl (Nat.le_of_ble_eq_true rfl) dX6_bears_20 (fun r h => co_X6_treatyIs h) (fun r1 => ?_)
  refine mv_case (fun e1 => ?_) (fun n1 => ?_)
  · refine mv_tsin 1 60 e1 dX6_bears_23 (by decide) (by decide) rfl (by decide) ?_
    refine mv_iload_n 2 dX6_bears_60 rfl rfl ?_
    exact mv_iretr hQ dX6_bears_61
  refine mv_case (fun e2 => ?_) (fun n2 => ?_)
  · refine mv_tsin 2 66 e2 dX6_bears_23 (by decide) (by decide) rfl (by decide) ?_
    refine mv_iconst (v := 1) dX6_bears_66 ic_1 ?_
    exact mv_iretr hQ dX6_bears_67
  refine mv_case (fun e3 => ?_) (fun n3 => ?_)
  · refine mv_tsin 3 68 e3 dX6_bears_23 (by decide) (by decide) rfl (by decide) ?_
    refine mv_iconst (v := 2) dX6_bears_68 ic_2 ?_
    exact mv_iretr hQ dX6_bears_69
  refine mv_case (fun e4 => ?_) (fun n4 => ?_)
  · refine mv_tsin 4 70 e4 dX6_bears_23 (by decide) (by decide) rfl (by decide) ?_
    refine mv_aload_n 0 dX6_bears_70 rfl rfl ?_
    refine mv_iload_n 1 dX6_bears_71 rfl rfl ?_
    refine mv_iconst (v := 3) dX6_bears_72 ic_3 ?_
    refine mv_cVri (As := [.int x1, .int (3 : Int32)]) (st := []) cal_X6_treatyIs ins_X6_treatyIs ml_X6_99 rfl (by decide) rfl rfl (by decide) rfl (Nat.le_of_ble_eq_true rfl) dX6_bears_73 (fun r h => co_X6_treatyIs h) (fun r2 => ?_)
    refine mv_aload_n 0 dX6_bears_76 rfl rfl ?_
    refine mg_X6_0 fl_X6_9 dX6_bears_77 ?_
    refine mv_iconst (v := 5) dX6_bears_80 ic_5 ?_
    refine mv_ialdk 86 5 rfl rfl (by decide) (by decide) dX6_bears_81 ?_
    refine mv_iand dX6_bears_82 ?_
    refine mv_bipush (v := 11) dX6_bears_83 bp_11 ?_
    refine mv_ishr dX6_bears_85 ?_
    refine mv_iconst (v := 1) dX6_bears_86 ic_1 ?_
    refine mv_icmp_ne 94 dX6_bears_87 (by decide) ?_ ?_
    · refine mv_iconst (v := 2) dX6_bears_94 ic_2 ?_
      refine mv_sub (lv' := []) [] rfl ?_
      exact vX6_bears_95 hQ (2 : Int32)
    · refine mv_iconst (v := 0) dX6_bears_90 ic_0 ?_
      refine mv_goto 95 dX6_bears_91 (by decide) ?_
      refine mv_sub (lv' := []) [] rfl ?_
      exact vX6_bears_95 hQ (0 : Int32)
  refine mv_case (fun e5 => ?_) (fun n5 => ?_)
  · refine mv_tsin 5 96 e5 dX6_bears_23 (by decide) (by decide) rfl (by decide) ?_
    refine mv_bipush (v := 12) dX6_bears_96 bp_12 ?_
    exact mv_iretr hQ dX6_bears_98
  refine mv_case (fun e6 => ?_) (fun n6 => ?_)
  · refine mv_tsin 6 62 e6 dX6_bears_23 (by decide) (by decide) rfl (by decide) ?_
    refine mv_iload_n 2 dX6_bears_62 rfl rfl ?_
    refine mv_iconst (v := 2) dX6_bears_63 ic_2 ?_
    refine mv_iadd dX6_bears_64 ?_
    exact mv_iretr hQ dX6_bears_65
  refine mv_tsout 99 (by have z1 := mt_ne (z := 1) n1 (by decide); have z2 := mt_ne (z := 2) n2 (by decide); have z3 := mt_ne (z := 3) n3 (by decide); have z4 := mt_ne (z := 4) n4 (by decide); have z5 := mt_ne (z := 5) n5 (by decide); have z6 := mt_ne (z := 6) n6 (by decide); omega) dX6_bears_23 (by decide) ?_
  refine mv_iconst (v := 0) dX6_bears_99 ic_0 ?_
  exact mv_iretr hQ dX6_bears_100
def fX6_bears (fu : Nat) (σ : mt_St) (a1 : Int32) : Option Int32 :=
  mt_ask (fX6_treatyIs fu σ a1 (5 : Int32)) fun r1 =>
  if r1 < (10 : Int32) then
    bX6_bears_16 fu σ a1 (0 : Int32)
  else
    bX6_bears_16 fu σ a1 (1 : Int32)
set_option maxHeartbeats 4000000 in
set_option maxRecDepth 20000 in
theorem vX6_bears {K : mt_C} {fu : Nat} {σ : mt_St} {a1 : Int32} {r : Int32} (hQ : mt_R K (some .int) (some (.int r)) σ) : mt_V K cX6_bears RX6 3 2 σ 0 [(0, .ref (mt_adr (kG K) 56)), (1, .int a1)] [] (fX6_bears fu σ a1 = some r) := by
  unfold fX6_bears
  refine mv_aload_n 0 dX6_bears_0 rfl rfl ?_
  refine mv_iload_n 1 dX6_bears_1 rfl rfl ?_
  refine mv_iconst (v := 5) dX6_bears_2 ic_5 ?_
  refine mv_cVri (As := [.int a1, .int (5 : Int32)]) (st := []) cal_X6_treatyIs ins_X6_treatyIs ml_X6_99 rfl (by decide) rfl rfl (by decide) rfl (Nat.le_of_ble_eq_true rfl) dX6_bears_3 (fun r h => co_X6_treatyIs h) (fun r1 => ?_)
  refine mv_bipush (v := 10) dX6_bears_6 bp_10 ?_
  refine mv_icmp_lt 15 dX6_bears_8 (by decide) ?_ ?_
  · refine mv_iconst (v := 0) dX6_bears_15 ic_0 ?_
    exact vX6_bears_16 hQ a1 (0 : Int32)
  · refine mv_iconst (v := 1) dX6_bears_11 ic_1 ?_
    refine mv_goto 16 dX6_bears_12 (by decide) ?_
    exact vX6_bears_16 hQ a1 (1 : Int32)
theorem co_X6_bears {l : Launch} {G : mt_G} {fu : Nat} {σ : mt_St} {a1 : Int32} {r : Int32}  (h : fX6_bears fu σ a1 = some r) : mt_Con l G yX6_bears cX6_bears 3 (some .int) 2 [.ref (mt_adr G 56), .int a1] σ (some (.int r)) σ :=
  mt_con (by decide) (Nat.le_of_ble_eq_true rfl) (fun K hl hG hQ => by subst hl; subst hG; exact fun _ => vX6_bears  hQ h)
theorem dX6_fades_0 : decode cX6_fades 0 = .ok (.aload_n 0, 1) := by decide +kernel
theorem dX6_fades_1 : decode cX6_fades 1 = .ok (.iload_n 1, 1) := by decide +kernel
theorem dX6_fades_2 : decode cX6_fades 2 = .ok (.iconst 0, 1) := by decide +kernel
theorem dX6_fades_3 : decode cX6_fades 3 = .ok (.invokevirtual 99, 3) := by decide +kernel
theorem dX6_fades_6 : decode cX6_fades 6 = .ok (.tableswitch 50 1 6 #[38, 43, 43, 46, 48, 41], 38) := by decide +kernel
theorem dX6_fades_44 : decode cX6_fades 44 = .ok (.bipush 40, 2) := by decide +kernel
theorem dX6_fades_46 : decode cX6_fades 46 = .ok (.ireturn, 1) := by decide +kernel
theorem dX6_fades_47 : decode cX6_fades 47 = .ok (.iconst 3, 1) := by decide +kernel
theorem dX6_fades_48 : decode cX6_fades 48 = .ok (.ireturn, 1) := by decide +kernel
theorem dX6_fades_49 : decode cX6_fades 49 = .ok (.bipush 15, 2) := by decide +kernel
theorem dX6_fades_51 : decode cX6_fades 51 = .ok (.ireturn, 1) := by decide +kernel
theorem dX6_fades_52 : decode cX6_fades 52 = .ok (.iconst 0, 1) := by decide +kernel
theorem dX6_fades_53 : decode cX6_fades 53 = .ok (.ireturn, 1) := by decide +kernel
theorem dX6_fades_54 : decode cX6_fades 54 = .ok (.iconst 1, 1) := by decide +kernel
theorem dX6_fades_55 : decode cX6_fades 55 = .ok (.ireturn, 1) := by decide +kernel
theorem dX6_fades_56 : decode cX6_fades 56 = .ok (.bipush 20, 2) := by decide +kernel
theorem dX6_fades_58 : decode cX6_fades 58 = .ok (.ireturn, 1) := by decide +kernel
def bX6_fades_49 (fu : Nat) (σ : mt_St) : Option Int32 :=
  some (15 : Int32)
set_option maxHeartbeats 4000000 in
set_option maxRecDepth 20000 in
theorem vX6_fades_49 {K : mt_C} {fu : Nat} {σ : mt_St} {r : Int32} (hQ : mt_R K (some .int) (some (.int r)) σ) : mt_V K cX6_fades RX6 2 2 σ 49 [] [] (bX6_fades_49 fu σ = some r) := by
  unfold bX6_fades_49
  refine mv_bipush (v := 15) dX6_fades_49 bp_15 ?_
  exact mv_iretr hQ dX6_fades_51
def fX6_fades (fu : Nat) (σ : mt_St) (a1 : Int32) : Option Int32 :=
  mt_ask (fX6_treatyIs fu σ a1 (0 : Int32)) fun r1 =>
  if r1 = 1 then
    some (40 : Int32)
  else
  if r1 = 2 then
    bX6_fades_49 fu σ
  else
  if r1 = 3 then
    bX6_fades_49 fu σ
  else
  if r1 = 4 then
    some (0 : Int32)
  else
  if r1 = 5 then
    some (1 : Int32)
  else
  if r1 = 6 then
    some (3 : Int32)
  else
  some (20 : Int32)
set_option maxHeartbeats 4000000 in
set_option maxRecDepth 20000 in
theorem vX6_fades {K : mt_C} {fu : Nat} {σ : mt_St} {a1 : Int32} {r : Int32} (hQ : mt_R K (some .int) (some (.int r)) σ) : mt_V K cX6_fades RX6 2 2 σ 0 [(0, .ref (mt_adr (kG K) 56)), (1, .int a1)] [] (fX6_fades fu σ a1 = some r) := by
  unfold fX6_fades
  refine mv_aload_n 0 dX6_fades_0 rfl rfl ?_
  refine mv_iload_n 1 dX6_fades_1 rfl rfl ?_
  refine mv_iconst (v := 0) dX6_fades_2 ic_0 ?_
  refine mv_cVri (As := [.int a1, .int (0 : Int32)]) (st := []) cal_X6_treatyIs ins_X6_treatyIs ml_X6_99 rfl (by decide) rfl rfl (by decide) rfl (Nat.le_of_ble_eq_true rfl) dX6_fades_3 (fun r h => co_X6_treatyIs h) (fun r1 => ?_)
  refine mv_case (fun e1 => ?_) (fun n1 => ?_)
  · refine mv_tsin 1 44 e1 dX6_fades_6 (by decide) (by decide) rfl (by decide) ?_
    refine mv_bipush (v := 40) dX6_fades_44 bp_40 ?_
    exact mv_iretr hQ dX6_fades_46
  refine mv_case (fun e2 => ?_) (fun n2 => ?_)
  · refine mv_tsin 2 49 e2 dX6_fades_6 (by decide) (by decide) rfl (by decide) ?_
    refine mv_sub (lv' := []) [] rfl ?_
    exact vX6_fades_49 hQ
  refine mv_case (fun e3 => ?_) (fun n3 => ?_)
  · refine mv_tsin 3 49 e3 dX6_fades_6 (by decide) (by decide) rfl (by decide) ?_
    refine mv_sub (lv' := []) [] rfl ?_
    exact vX6_fades_49 hQ
  refine mv_case (fun e4 => ?_) (fun n4 => ?_)
  · refine mv_tsin 4 52 e4 dX6_fades_6 (by decide) (by decide) rfl (by decide) ?_
    refine mv_iconst (v := 0) dX6_fades_52 ic_0 ?_
    exact mv_iretr hQ dX6_fades_53
  refine mv_case (fun e5 => ?_) (fun n5 => ?_)
  · refine mv_tsin 5 54 e5 dX6_fades_6 (by decide) (by decide) rfl (by decide) ?_
    refine mv_iconst (v := 1) dX6_fades_54 ic_1 ?_
    exact mv_iretr hQ dX6_fades_55
  refine mv_case (fun e6 => ?_) (fun n6 => ?_)
  · refine mv_tsin 6 47 e6 dX6_fades_6 (by decide) (by decide) rfl (by decide) ?_
    refine mv_iconst (v := 3) dX6_fades_47 ic_3 ?_
    exact mv_iretr hQ dX6_fades_48
  refine mv_tsout 56 (by have z1 := mt_ne (z := 1) n1 (by decide); have z2 := mt_ne (z := 2) n2 (by decide); have z3 := mt_ne (z := 3) n3 (by decide); have z4 := mt_ne (z := 4) n4 (by decide); have z5 := mt_ne (z := 5) n5 (by decide); have z6 := mt_ne (z := 6) n6 (by decide); omega) dX6_fades_6 (by decide) ?_
  refine mv_bipush (v := 20) dX6_fades_56 bp_20 ?_
  exact mv_iretr hQ dX6_fades_58
theorem co_X6_fades {l : Launch} {G : mt_G} {fu : Nat} {σ : mt_St} {a1 : Int32} {r : Int32}  (h : fX6_fades fu σ a1 = some r) : mt_Con l G yX6_fades cX6_fades 2 (some .int) 2 [.ref (mt_adr G 56), .int a1] σ (some (.int r)) σ :=
  mt_con (by decide) (Nat.le_of_ble_eq_true rfl) (fun K hl hG hQ => by subst hl; subst hG; exact fun _ => vX6_fades  hQ h)
theorem dX6_yields_0 : decode cX6_yields 0 = .ok (.iconst 1, 1) := by decide +kernel
theorem dX6_yields_1 : decode cX6_yields 1 = .ok (.aload_n 0, 1) := by decide +kernel
theorem dX6_yields_2 : decode cX6_yields 2 = .ok (.iload_n 1, 1) := by decide +kernel
theorem dX6_yields_3 : decode cX6_yields 3 = .ok (.iconst 3, 1) := by decide +kernel
theorem dX6_yields_4 : decode cX6_yields 4 = .ok (.invokevirtual 99, 3) := by decide +kernel
theorem dX6_yields_7 : decode cX6_yields 7 = .ok (.invokestatic 102, 3) := by decide +kernel
theorem dX6_yields_10 : decode cX6_yields 10 = .ok (.iadd, 1) := by decide +kernel
theorem dX6_yields_11 : decode cX6_yields 11 = .ok (.istore_n 2, 1) := by decide +kernel
theorem dX6_yields_12 : decode cX6_yields 12 = .ok (.aload_n 0, 1) := by decide +kernel
theorem dX6_yields_13 : decode cX6_yields 13 = .ok (.iload_n 1, 1) := by decide +kernel
theorem dX6_yields_14 : decode cX6_yields 14 = .ok (.iconst 0, 1) := by decide +kernel
theorem dX6_yields_15 : decode cX6_yields 15 = .ok (.invokevirtual 99, 3) := by decide +kernel
theorem dX6_yields_18 : decode cX6_yields 18 = .ok (.tableswitch 63 1 6 #[38, 49, 51, 55, 61, 61], 38) := by decide +kernel
theorem dX6_yields_56 : decode cX6_yields 56 = .ok (.iload_n 2, 1) := by decide +kernel
theorem dX6_yields_57 : decode cX6_yields 57 = .ok (.iconst 1, 1) := by decide +kernel
theorem dX6_yields_58 : decode cX6_yields 58 = .ok (.if_icmp .ne 7, 3) := by decide +kernel
theorem dX6_yields_61 : decode cX6_yields 61 = .ok (.iconst 2, 1) := by decide +kernel
theorem dX6_yields_62 : decode cX6_yields 62 = .ok (.goto 4, 3) := by decide +kernel
theorem dX6_yields_65 : decode cX6_yields 65 = .ok (.iconst 1, 1) := by decide +kernel
theorem dX6_yields_66 : decode cX6_yields 66 = .ok (.ireturn, 1) := by decide +kernel
theorem dX6_yields_67 : decode cX6_yields 67 = .ok (.iload_n 2, 1) := by decide +kernel
theorem dX6_yields_68 : decode cX6_yields 68 = .ok (.ireturn, 1) := by decide +kernel
theorem dX6_yields_69 : decode cX6_yields 69 = .ok (.iload_n 2, 1) := by decide +kernel
theorem dX6_yields_70 : decode cX6_yields 70 = .ok (.iconst 2, 1) := by decide +kernel
theorem dX6_yields_71 : decode cX6_yields 71 = .ok (.iadd, 1) := by decide +kernel
theorem dX6_yields_72 : decode cX6_yields 72 = .ok (.ireturn, 1) := by decide +kernel
theorem dX6_yields_73 : decode cX6_yields 73 = .ok (.iconst 2, 1) := by decide +kernel
theorem dX6_yields_74 : decode cX6_yields 74 = .ok (.iload_n 2, 1) := by decide +kernel
theorem dX6_yields_75 : decode cX6_yields 75 = .ok (.iconst 2, 1) := by decide +kernel
theorem dX6_yields_76 : decode cX6_yields 76 = .ok (.iadd, 1) := by decide +kernel
theorem dX6_yields_77 : decode cX6_yields 77 = .ok (.imul, 1) := by decide +kernel
theorem dX6_yields_78 : decode cX6_yields 78 = .ok (.ireturn, 1) := by decide +kernel
theorem dX6_yields_79 : decode cX6_yields 79 = .ok (.iconst 0, 1) := by decide +kernel
theorem dX6_yields_80 : decode cX6_yields 80 = .ok (.ireturn, 1) := by decide +kernel
theorem dX6_yields_81 : decode cX6_yields 81 = .ok (.iconst 1, 1) := by decide +kernel
theorem dX6_yields_82 : decode cX6_yields 82 = .ok (.ireturn, 1) := by decide +kernel
def bX6_yields_79 (fu : Nat) (σ : mt_St) : Option Int32 :=
  some (0 : Int32)
set_option maxHeartbeats 4000000 in
set_option maxRecDepth 20000 in
theorem vX6_yields_79 {K : mt_C} {fu : Nat} {σ : mt_St} {r : Int32} (hQ : mt_R K (some .int) (some (.int r)) σ) : mt_V K cX6_yields RX6 3 2 σ 79 [] [] (bX6_yields_79 fu σ = some r) := by
  unfold bX6_yields_79
  refine mv_iconst (v := 0) dX6_yields_79 ic_0 ?_
  exact mv_iretr hQ dX6_yields_80
def bX6_yields_66 (fu : Nat) (σ : mt_St) (y0 : Int32) : Option Int32 :=
  some y0
set_option maxHeartbeats 4000000 in
set_option maxRecDepth 20000 in
theorem vX6_yields_66 {K : mt_C} {fu : Nat} {σ : mt_St} {r : Int32} (hQ : mt_R K (some .int) (some (.int r)) σ) : ∀ (y0 : Int32), mt_V K cX6_yields RX6 3 2 σ 66 [] [.int y0] (bX6_yields_66 fu σ y0 = some r) := by
  intro y0
  unfold bX6_yields_66
  exact mv_iretr hQ dX6_yields_66
def fX6_yields (fu : Nat) (σ : mt_St) (a1 : Int32) : Option Int32 :=
  mt_ask (fX6_treatyIs fu σ a1 (3 : Int32)) fun r1 =>
  mt_ask (fX6_bits fu r1) fun r2 =>
  mt_ask (fX6_treatyIs fu σ a1 (0 : Int32)) fun r3 =>
  if r3 = 1 then
    if ((1 : Int32) + r2) = (1 : Int32) then
      bX6_yields_66 fu σ (2 : Int32)
    else
      bX6_yields_66 fu σ (1 : Int32)
  else
  if r3 = 2 then
    some ((1 : Int32) + r2)
  else
  if r3 = 3 then
    some (((1 : Int32) + r2) + (2 : Int32))
  else
  if r3 = 4 then
    some ((2 : Int32) * (((1 : Int32) + r2) + (2 : Int32)))
  else
  if r3 = 5 then
    bX6_yields_79 fu σ
  else
  if r3 = 6 then
    bX6_yields_79 fu σ
  else
  some (1 : Int32)
set_option maxHeartbeats 4000000 in
set_option maxRecDepth 20000 in
theorem vX6_yields {K : mt_C} {fu : Nat} {σ : mt_St} {a1 : Int32} {r : Int32} (hQ : mt_R K (some .int) (some (.int r)) σ) : mt_V K cX6_yields RX6 3 2 σ 0 [(0, .ref (mt_adr (kG K) 56)), (1, .int a1)] [] (fX6_yields fu σ a1 = some r) := by
  unfold fX6_yields
  refine mv_iconst (v := 1) dX6_yields_0 ic_1 ?_
  refine mv_aload_n 0 dX6_yields_1 rfl rfl ?_
  refine mv_iload_n 1 dX6_yields_2 rfl rfl ?_
  refine mv_iconst (v := 3) dX6_yields_3 ic_3 ?_
  refine mv_cVri (As := [.int a1, .int (3 : Int32)]) (st := [.int (1 : Int32)]) cal_X6_treatyIs ins_X6_treatyIs ml_X6_99 rfl (by decide) rfl rfl (by decide) rfl (Nat.le_of_ble_eq_true rfl) dX6_yields_4 (fun r h => co_X6_treatyIs h) (fun r1 => ?_)
  refine mv_cSri (As := [.int r1]) (st := [.int (1 : Int32)]) cal_X6_bits sta_X6_bits ml_X6_102 rfl (by decide) rfl (Nat.le_of_ble_eq_true rfl) dX6_yields_7 (fun r h => co_X6_bits h) (fun r2 => ?_)
  refine mv_iadd dX6_yields_10 ?_
  refine mv_istore_n (lv' := [(0, .ref (mt_adr (kG K) 56)), (1, .int a1), (2, .int ((1 : Int32) + r2))]) [1, 2, 0] dX6_yields_11 rfl (by decide) rfl ?_
  refine mv_aload_n 0 dX6_yields_12 rfl rfl ?_
  refine mv_iload_n 1 dX6_yields_13 rfl rfl ?_
  refine mv_iconst (v := 0) dX6_yields_14 ic_0 ?_
  refine mv_cVri (As := [.int a1, .int (0 : Int32)]) (st := []) cal_X6_treatyIs ins_X6_treatyIs ml_X6_99 rfl (by decide) rfl rfl (by decide) rfl (Nat.le_of_ble_eq_true rfl) dX6_yields_15 (fun r h => co_X6_treatyIs h) (fun r3 => ?_)
  refine mv_case (fun e1 => ?_) (fun n1 => ?_)
  · refine mv_tsin 1 56 e1 dX6_yields_18 (by decide) (by decide) rfl (by decide) ?_
    refine mv_iload_n 2 dX6_yields_56 rfl rfl ?_
    refine mv_iconst (v := 1) dX6_yields_57 ic_1 ?_
    refine mv_icmp_ne 65 dX6_yields_58 (by decide) ?_ ?_
    · refine mv_iconst (v := 1) dX6_yields_65 ic_1 ?_
      refine mv_sub (lv' := []) [] rfl ?_
      exact vX6_yields_66 hQ (1 : Int32)
    · refine mv_iconst (v := 2) dX6_yields_61 ic_2 ?_
      refine mv_goto 66 dX6_yields_62 (by decide) ?_
      refine mv_sub (lv' := []) [] rfl ?_
      exact vX6_yields_66 hQ (2 : Int32)
  refine mv_case (fun e2 => ?_) (fun n2 => ?_)
  · refine mv_tsin 2 67 e2 dX6_yields_18 (by decide) (by decide) rfl (by decide) ?_
    refine mv_iload_n 2 dX6_yields_67 rfl rfl ?_
    exact mv_iretr hQ dX6_yields_68
  refine mv_case (fun e3 => ?_) (fun n3 => ?_)
  · refine mv_tsin 3 69 e3 dX6_yields_18 (by decide) (by decide) rfl (by decide) ?_
    refine mv_iload_n 2 dX6_yields_69 rfl rfl ?_
    refine mv_iconst (v := 2) dX6_yields_70 ic_2 ?_
    refine mv_iadd dX6_yields_71 ?_
    exact mv_iretr hQ dX6_yields_72
  refine mv_case (fun e4 => ?_) (fun n4 => ?_)
  · refine mv_tsin 4 73 e4 dX6_yields_18 (by decide) (by decide) rfl (by decide) ?_
    refine mv_iconst (v := 2) dX6_yields_73 ic_2 ?_
    refine mv_iload_n 2 dX6_yields_74 rfl rfl ?_
    refine mv_iconst (v := 2) dX6_yields_75 ic_2 ?_
    refine mv_iadd dX6_yields_76 ?_
    refine mv_imul dX6_yields_77 ?_
    exact mv_iretr hQ dX6_yields_78
  refine mv_case (fun e5 => ?_) (fun n5 => ?_)
  · refine mv_tsin 5 79 e5 dX6_yields_18 (by decide) (by decide) rfl (by decide) ?_
    refine mv_sub (lv' := []) [] rfl ?_
    exact vX6_yields_79 hQ
  refine mv_case (fun e6 => ?_) (fun n6 => ?_)
  · refine mv_tsin 6 79 e6 dX6_yields_18 (by decide) (by decide) rfl (by decide) ?_
    refine mv_sub (lv' := []) [] rfl ?_
    exact vX6_yields_79 hQ
  refine mv_tsout 81 (by have z1 := mt_ne (z := 1) n1 (by decide); have z2 := mt_ne (z := 2) n2 (by decide); have z3 := mt_ne (z := 3) n3 (by decide); have z4 := mt_ne (z := 4) n4 (by decide); have z5 := mt_ne (z := 5) n5 (by decide); have z6 := mt_ne (z := 6) n6 (by decide); omega) dX6_yields_18 (by decide) ?_
  refine mv_iconst (v := 1) dX6_yields_81 ic_1 ?_
  exact mv_iretr hQ dX6_yields_82
theorem co_X6_yields {l : Launch} {G : mt_G} {fu : Nat} {σ : mt_St} {a1 : Int32} {r : Int32}  (h : fX6_yields fu σ a1 = some r) : mt_Con l G yX6_yields cX6_yields 3 (some .int) 2 [.ref (mt_adr G 56), .int a1] σ (some (.int r)) σ :=
  mt_con (by decide) (Nat.le_of_ble_eq_true rfl) (fun K hl hG hQ => by subst hl; subst hG; exact fun _ => vX6_yields  hQ h)
theorem dX6_renews_0 : decode cX6_renews 0 = .ok (.aload_n 0, 1) := by decide +kernel
theorem dX6_renews_1 : decode cX6_renews 1 = .ok (.iload_n 1, 1) := by decide +kernel
theorem dX6_renews_2 : decode cX6_renews 2 = .ok (.iconst 0, 1) := by decide +kernel
theorem dX6_renews_3 : decode cX6_renews 3 = .ok (.invokevirtual 99, 3) := by decide +kernel
theorem dX6_renews_6 : decode cX6_renews 6 = .ok (.tableswitch 50 1 6 #[38, 43, 43, 45, 47, 41], 38) := by decide +kernel
theorem dX6_renews_44 : decode cX6_renews 44 = .ok (.bipush 10, 2) := by decide +kernel
theorem dX6_renews_46 : decode cX6_renews 46 = .ok (.ireturn, 1) := by decide +kernel
theorem dX6_renews_47 : decode cX6_renews 47 = .ok (.iconst 1, 1) := by decide +kernel
theorem dX6_renews_48 : decode cX6_renews 48 = .ok (.ireturn, 1) := by decide +kernel
theorem dX6_renews_49 : decode cX6_renews 49 = .ok (.iconst 3, 1) := by decide +kernel
theorem dX6_renews_50 : decode cX6_renews 50 = .ok (.ireturn, 1) := by decide +kernel
theorem dX6_renews_51 : decode cX6_renews 51 = .ok (.iconst 0, 1) := by decide +kernel
theorem dX6_renews_52 : decode cX6_renews 52 = .ok (.ireturn, 1) := by decide +kernel
theorem dX6_renews_53 : decode cX6_renews 53 = .ok (.bipush 6, 2) := by decide +kernel
theorem dX6_renews_55 : decode cX6_renews 55 = .ok (.ireturn, 1) := by decide +kernel
theorem dX6_renews_56 : decode cX6_renews 56 = .ok (.iconst 5, 1) := by decide +kernel
theorem dX6_renews_57 : decode cX6_renews 57 = .ok (.ireturn, 1) := by decide +kernel
def bX6_renews_49 (fu : Nat) (σ : mt_St) : Option Int32 :=
  some (3 : Int32)
set_option maxHeartbeats 4000000 in
set_option maxRecDepth 20000 in
theorem vX6_renews_49 {K : mt_C} {fu : Nat} {σ : mt_St} {r : Int32} (hQ : mt_R K (some .int) (some (.int r)) σ) : mt_V K cX6_renews RX6 2 2 σ 49 [] [] (bX6_renews_49 fu σ = some r) := by
  unfold bX6_renews_49
  refine mv_iconst (v := 3) dX6_renews_49 ic_3 ?_
  exact mv_iretr hQ dX6_renews_50
def fX6_renews (fu : Nat) (σ : mt_St) (a1 : Int32) : Option Int32 :=
  mt_ask (fX6_treatyIs fu σ a1 (0 : Int32)) fun r1 =>
  if r1 = 1 then
    some (10 : Int32)
  else
  if r1 = 2 then
    bX6_renews_49 fu σ
  else
  if r1 = 3 then
    bX6_renews_49 fu σ
  else
  if r1 = 4 then
    some (0 : Int32)
  else
  if r1 = 5 then
    some (6 : Int32)
  else
  if r1 = 6 then
    some (1 : Int32)
  else
  some (5 : Int32)
set_option maxHeartbeats 4000000 in
set_option maxRecDepth 20000 in
theorem vX6_renews {K : mt_C} {fu : Nat} {σ : mt_St} {a1 : Int32} {r : Int32} (hQ : mt_R K (some .int) (some (.int r)) σ) : mt_V K cX6_renews RX6 2 2 σ 0 [(0, .ref (mt_adr (kG K) 56)), (1, .int a1)] [] (fX6_renews fu σ a1 = some r) := by
  unfold fX6_renews
  refine mv_aload_n 0 dX6_renews_0 rfl rfl ?_
  refine mv_iload_n 1 dX6_renews_1 rfl rfl ?_
  refine mv_iconst (v := 0) dX6_renews_2 ic_0 ?_
  refine mv_cVri (As := [.int a1, .int (0 : Int32)]) (st := []) cal_X6_treatyIs ins_X6_treatyIs ml_X6_99 rfl (by decide) rfl rfl (by decide) rfl (Nat.le_of_ble_eq_true rfl) dX6_renews_3 (fun r h => co_X6_treatyIs h) (fun r1 => ?_)
  refine mv_case (fun e1 => ?_) (fun n1 => ?_)
  · refine mv_tsin 1 44 e1 dX6_renews_6 (by decide) (by decide) rfl (by decide) ?_
    refine mv_bipush (v := 10) dX6_renews_44 bp_10 ?_
    exact mv_iretr hQ dX6_renews_46
  refine mv_case (fun e2 => ?_) (fun n2 => ?_)
  · refine mv_tsin 2 49 e2 dX6_renews_6 (by decide) (by decide) rfl (by decide) ?_
    refine mv_sub (lv' := []) [] rfl ?_
    exact vX6_renews_49 hQ
  refine mv_case (fun e3 => ?_) (fun n3 => ?_)
  · refine mv_tsin 3 49 e3 dX6_renews_6 (by decide) (by decide) rfl (by decide) ?_
    refine mv_sub (lv' := []) [] rfl ?_
    exact vX6_renews_49 hQ
  refine mv_case (fun e4 => ?_) (fun n4 => ?_)
  · refine mv_tsin 4 51 e4 dX6_renews_6 (by decide) (by decide) rfl (by decide) ?_
    refine mv_iconst (v := 0) dX6_renews_51 ic_0 ?_
    exact mv_iretr hQ dX6_renews_52
  refine mv_case (fun e5 => ?_) (fun n5 => ?_)
  · refine mv_tsin 5 53 e5 dX6_renews_6 (by decide) (by decide) rfl (by decide) ?_
    refine mv_bipush (v := 6) dX6_renews_53 bp_6 ?_
    exact mv_iretr hQ dX6_renews_55
  refine mv_case (fun e6 => ?_) (fun n6 => ?_)
  · refine mv_tsin 6 47 e6 dX6_renews_6 (by decide) (by decide) rfl (by decide) ?_
    refine mv_iconst (v := 1) dX6_renews_47 ic_1 ?_
    exact mv_iretr hQ dX6_renews_48
  refine mv_tsout 56 (by have z1 := mt_ne (z := 1) n1 (by decide); have z2 := mt_ne (z := 2) n2 (by decide); have z3 := mt_ne (z := 3) n3 (by decide); have z4 := mt_ne (z := 4) n4 (by decide); have z5 := mt_ne (z := 5) n5 (by decide); have z6 := mt_ne (z := 6) n6 (by decide); omega) dX6_renews_6 (by decide) ?_
  refine mv_iconst (v := 5) dX6_renews_56 ic_5 ?_
  exact mv_iretr hQ dX6_renews_57
theorem co_X6_renews {l : Launch} {G : mt_G} {fu : Nat} {σ : mt_St} {a1 : Int32} {r : Int32}  (h : fX6_renews fu σ a1 = some r) : mt_Con l G yX6_renews cX6_renews 2 (some .int) 2 [.ref (mt_adr G 56), .int a1] σ (some (.int r)) σ :=
  mt_con (by decide) (Nat.le_of_ble_eq_true rfl) (fun K hl hG hQ => by subst hl; subst hG; exact fun _ => vX6_renews  hQ h)
theorem dX6_upIn_0 : decode cX6_upIn 0 = .ok (.aload_n 0, 1) := by decide +kernel
theorem dX6_upIn_1 : decode cX6_upIn 1 = .ok (.iload_n 1, 1) := by decide +kernel
theorem dX6_upIn_2 : decode cX6_upIn 2 = .ok (.iconst 3, 1) := by decide +kernel
theorem dX6_upIn_3 : decode cX6_upIn 3 = .ok (.invokevirtual 99, 3) := by decide +kernel
theorem dX6_upIn_6 : decode cX6_upIn 6 = .ok (.aload_n 0, 1) := by decide +kernel
theorem dX6_upIn_7 : decode cX6_upIn 7 = .ok (.getfield 9, 3) := by decide +kernel
theorem dX6_upIn_10 : decode cX6_upIn 10 = .ok (.iconst 5, 1) := by decide +kernel
theorem dX6_upIn_11 : decode cX6_upIn 11 = .ok (.iaload, 1) := by decide +kernel
theorem dX6_upIn_12 : decode cX6_upIn 12 = .ok (.iand, 1) := by decide +kernel
theorem dX6_upIn_13 : decode cX6_upIn 13 = .ok (.invokestatic 102, 3) := by decide +kernel
theorem dX6_upIn_16 : decode cX6_upIn 16 = .ok (.ireturn, 1) := by decide +kernel
def fX6_upIn (fu : Nat) (σ : mt_St) (a1 : Int32) : Option Int32 :=
  mt_ask (fX6_treatyIs fu σ a1 (3 : Int32)) fun r1 =>
  mt_ask (fX6_bits fu (r1 &&& (σ 57 5))) fun r2 =>
  some r2
set_option maxHeartbeats 4000000 in
set_option maxRecDepth 20000 in
theorem vX6_upIn {K : mt_C} {fu : Nat} {σ : mt_St} {a1 : Int32} {r : Int32} (hQ : mt_R K (some .int) (some (.int r)) σ) : mt_V K cX6_upIn RX6 2 2 σ 0 [(0, .ref (mt_adr (kG K) 56)), (1, .int a1)] [] (fX6_upIn fu σ a1 = some r) := by
  unfold fX6_upIn
  refine mv_aload_n 0 dX6_upIn_0 rfl rfl ?_
  refine mv_iload_n 1 dX6_upIn_1 rfl rfl ?_
  refine mv_iconst (v := 3) dX6_upIn_2 ic_3 ?_
  refine mv_cVri (As := [.int a1, .int (3 : Int32)]) (st := []) cal_X6_treatyIs ins_X6_treatyIs ml_X6_99 rfl (by decide) rfl rfl (by decide) rfl (Nat.le_of_ble_eq_true rfl) dX6_upIn_3 (fun r h => co_X6_treatyIs h) (fun r1 => ?_)
  refine mv_aload_n 0 dX6_upIn_6 rfl rfl ?_
  refine mg_X6_0 fl_X6_9 dX6_upIn_7 ?_
  refine mv_iconst (v := 5) dX6_upIn_10 ic_5 ?_
  refine mv_ialdk 86 5 rfl rfl (by decide) (by decide) dX6_upIn_11 ?_
  refine mv_iand dX6_upIn_12 ?_
  refine mv_cSri (As := [.int (r1 &&& (σ 57 5))]) (st := []) cal_X6_bits sta_X6_bits ml_X6_102 rfl (by decide) rfl (Nat.le_of_ble_eq_true rfl) dX6_upIn_13 (fun r h => co_X6_bits h) (fun r2 => ?_)
  exact mv_iretr hQ dX6_upIn_16
theorem co_X6_upIn {l : Launch} {G : mt_G} {fu : Nat} {σ : mt_St} {a1 : Int32} {r : Int32}  (h : fX6_upIn fu σ a1 = some r) : mt_Con l G yX6_upIn cX6_upIn 2 (some .int) 2 [.ref (mt_adr G 56), .int a1] σ (some (.int r)) σ :=
  mt_con (by decide) (Nat.le_of_ble_eq_true rfl) (fun K hl hG hQ => by subst hl; subst hG; exact fun _ => vX6_upIn  hQ h)
theorem dX6_told_0 : decode cX6_told 0 = .ok (.iload_n 2, 1) := by decide +kernel
theorem dX6_told_1 : decode cX6_told 1 = .ok (.tableswitch 65 8 12 #[35, 41, 47, 53, 59], 35) := by decide +kernel
theorem dX6_told_36 : decode cX6_told 36 = .ok (.aload_n 0, 1) := by decide +kernel
theorem dX6_told_37 : decode cX6_told 37 = .ok (.iload_n 1, 1) := by decide +kernel
theorem dX6_told_38 : decode cX6_told 38 = .ok (.invokevirtual 105, 3) := by decide +kernel
theorem dX6_told_41 : decode cX6_told 41 = .ok (.ireturn, 1) := by decide +kernel
theorem dX6_told_42 : decode cX6_told 42 = .ok (.aload_n 0, 1) := by decide +kernel
theorem dX6_told_43 : decode cX6_told 43 = .ok (.iload_n 1, 1) := by decide +kernel
theorem dX6_told_44 : decode cX6_told 44 = .ok (.invokevirtual 108, 3) := by decide +kernel
theorem dX6_told_47 : decode cX6_told 47 = .ok (.ireturn, 1) := by decide +kernel
theorem dX6_told_48 : decode cX6_told 48 = .ok (.aload_n 0, 1) := by decide +kernel
theorem dX6_told_49 : decode cX6_told 49 = .ok (.iload_n 1, 1) := by decide +kernel
theorem dX6_told_50 : decode cX6_told 50 = .ok (.invokevirtual 111, 3) := by decide +kernel
theorem dX6_told_53 : decode cX6_told 53 = .ok (.ireturn, 1) := by decide +kernel
theorem dX6_told_54 : decode cX6_told 54 = .ok (.aload_n 0, 1) := by decide +kernel
theorem dX6_told_55 : decode cX6_told 55 = .ok (.iload_n 1, 1) := by decide +kernel
theorem dX6_told_56 : decode cX6_told 56 = .ok (.invokevirtual 114, 3) := by decide +kernel
theorem dX6_told_59 : decode cX6_told 59 = .ok (.ireturn, 1) := by decide +kernel
theorem dX6_told_60 : decode cX6_told 60 = .ok (.aload_n 0, 1) := by decide +kernel
theorem dX6_told_61 : decode cX6_told 61 = .ok (.iload_n 1, 1) := by decide +kernel
theorem dX6_told_62 : decode cX6_told 62 = .ok (.invokevirtual 117, 3) := by decide +kernel
theorem dX6_told_65 : decode cX6_told 65 = .ok (.ireturn, 1) := by decide +kernel
theorem dX6_told_66 : decode cX6_told 66 = .ok (.aload_n 0, 1) := by decide +kernel
theorem dX6_told_67 : decode cX6_told 67 = .ok (.iload_n 1, 1) := by decide +kernel
theorem dX6_told_68 : decode cX6_told 68 = .ok (.iload_n 2, 1) := by decide +kernel
theorem dX6_told_69 : decode cX6_told 69 = .ok (.invokevirtual 99, 3) := by decide +kernel
theorem dX6_told_72 : decode cX6_told 72 = .ok (.ireturn, 1) := by decide +kernel
def fX6_told (fu : Nat) (σ : mt_St) (a1 : Int32) (a2 : Int32) : Option Int32 :=
  if a2 = 8 then
    mt_ask (fX6_bears fu σ a1) fun r1 =>
    some r1
  else
  if a2 = 9 then
    mt_ask (fX6_fades fu σ a1) fun r2 =>
    some r2
  else
  if a2 = 10 then
    mt_ask (fX6_yields fu σ a1) fun r3 =>
    some r3
  else
  if a2 = 11 then
    mt_ask (fX6_renews fu σ a1) fun r4 =>
    some r4
  else
  if a2 = 12 then
    mt_ask (fX6_upIn fu σ a1) fun r5 =>
    some r5
  else
  mt_ask (fX6_treatyIs fu σ a1 a2) fun r6 =>
  some r6
set_option maxHeartbeats 4000000 in
set_option maxRecDepth 20000 in
theorem vX6_told {K : mt_C} {fu : Nat} {σ : mt_St} {a1 : Int32} {a2 : Int32} {r : Int32} (hQ : mt_R K (some .int) (some (.int r)) σ) : mt_V K cX6_told RX6 3 3 σ 0 [(0, .ref (mt_adr (kG K) 56)), (1, .int a1), (2, .int a2)] [] (fX6_told fu σ a1 a2 = some r) := by
  unfold fX6_told
  refine mv_iload_n 2 dX6_told_0 rfl rfl ?_
  refine mv_case (fun e8 => ?_) (fun n8 => ?_)
  · refine mv_tsin 8 36 e8 dX6_told_1 (by decide) (by decide) rfl (by decide) ?_
    refine mv_aload_n 0 dX6_told_36 rfl rfl ?_
    refine mv_iload_n 1 dX6_told_37 rfl rfl ?_
    refine mv_cVri (As := [.int a1]) (st := []) cal_X6_bears ins_X6_bears ml_X6_105 rfl (by decide) rfl rfl (by decide) rfl (Nat.le_of_ble_eq_true rfl) dX6_told_38 (fun r h => co_X6_bears h) (fun r1 => ?_)
    exact mv_iretr hQ dX6_told_41
  refine mv_case (fun e9 => ?_) (fun n9 => ?_)
  · refine mv_tsin 9 42 e9 dX6_told_1 (by decide) (by decide) rfl (by decide) ?_
    refine mv_aload_n 0 dX6_told_42 rfl rfl ?_
    refine mv_iload_n 1 dX6_told_43 rfl rfl ?_
    refine mv_cVri (As := [.int a1]) (st := []) cal_X6_fades ins_X6_fades ml_X6_108 rfl (by decide) rfl rfl (by decide) rfl (Nat.le_of_ble_eq_true rfl) dX6_told_44 (fun r h => co_X6_fades h) (fun r2 => ?_)
    exact mv_iretr hQ dX6_told_47
  refine mv_case (fun e10 => ?_) (fun n10 => ?_)
  · refine mv_tsin 10 48 e10 dX6_told_1 (by decide) (by decide) rfl (by decide) ?_
    refine mv_aload_n 0 dX6_told_48 rfl rfl ?_
    refine mv_iload_n 1 dX6_told_49 rfl rfl ?_
    refine mv_cVri (As := [.int a1]) (st := []) cal_X6_yields ins_X6_yields ml_X6_111 rfl (by decide) rfl rfl (by decide) rfl (Nat.le_of_ble_eq_true rfl) dX6_told_50 (fun r h => co_X6_yields h) (fun r3 => ?_)
    exact mv_iretr hQ dX6_told_53
  refine mv_case (fun e11 => ?_) (fun n11 => ?_)
  · refine mv_tsin 11 54 e11 dX6_told_1 (by decide) (by decide) rfl (by decide) ?_
    refine mv_aload_n 0 dX6_told_54 rfl rfl ?_
    refine mv_iload_n 1 dX6_told_55 rfl rfl ?_
    refine mv_cVri (As := [.int a1]) (st := []) cal_X6_renews ins_X6_renews ml_X6_114 rfl (by decide) rfl rfl (by decide) rfl (Nat.le_of_ble_eq_true rfl) dX6_told_56 (fun r h => co_X6_renews h) (fun r4 => ?_)
    exact mv_iretr hQ dX6_told_59
  refine mv_case (fun e12 => ?_) (fun n12 => ?_)
  · refine mv_tsin 12 60 e12 dX6_told_1 (by decide) (by decide) rfl (by decide) ?_
    refine mv_aload_n 0 dX6_told_60 rfl rfl ?_
    refine mv_iload_n 1 dX6_told_61 rfl rfl ?_
    refine mv_cVri (As := [.int a1]) (st := []) cal_X6_upIn ins_X6_upIn ml_X6_117 rfl (by decide) rfl rfl (by decide) rfl (Nat.le_of_ble_eq_true rfl) dX6_told_62 (fun r h => co_X6_upIn h) (fun r5 => ?_)
    exact mv_iretr hQ dX6_told_65
  refine mv_tsout 66 (by have z8 := mt_ne (z := 8) n8 (by decide); have z9 := mt_ne (z := 9) n9 (by decide); have z10 := mt_ne (z := 10) n10 (by decide); have z11 := mt_ne (z := 11) n11 (by decide); have z12 := mt_ne (z := 12) n12 (by decide); omega) dX6_told_1 (by decide) ?_
  refine mv_aload_n 0 dX6_told_66 rfl rfl ?_
  refine mv_iload_n 1 dX6_told_67 rfl rfl ?_
  refine mv_iload_n 2 dX6_told_68 rfl rfl ?_
  refine mv_cVri (As := [.int a1, .int a2]) (st := []) cal_X6_treatyIs ins_X6_treatyIs ml_X6_99 rfl (by decide) rfl rfl (by decide) rfl (Nat.le_of_ble_eq_true rfl) dX6_told_69 (fun r h => co_X6_treatyIs h) (fun r6 => ?_)
  exact mv_iretr hQ dX6_told_72
theorem co_X6_told {l : Launch} {G : mt_G} {fu : Nat} {σ : mt_St} {a1 : Int32} {a2 : Int32} {r : Int32}  (h : fX6_told fu σ a1 a2 = some r) : mt_Con l G yX6_told cX6_told 3 (some .int) 3 [.ref (mt_adr G 56), .int a1, .int a2] σ (some (.int r)) σ :=
  mt_con (by decide) (Nat.le_of_ble_eq_true rfl) (fun K hl hG hQ => by subst hl; subst hG; exact fun _ => vX6_told  hQ h)
theorem dX6_of_0 : decode cX6_of 0 = .ok (.aload_n 0, 1) := by decide +kernel
theorem dX6_of_1 : decode cX6_of 1 = .ok (.iload_n 1, 1) := by decide +kernel
theorem dX6_of_2 : decode cX6_of 2 = .ok (.invokevirtual 120, 3) := by decide +kernel
theorem dX6_of_5 : decode cX6_of 5 = .ok (.ifCond .eq 22, 3) := by decide +kernel
theorem dX6_of_8 : decode cX6_of 8 = .ok (.iload_n 2, 1) := by decide +kernel
theorem dX6_of_9 : decode cX6_of 9 = .ok (.iconst 0, 1) := by decide +kernel
theorem dX6_of_10 : decode cX6_of 10 = .ok (.bipush 12, 2) := by decide +kernel
theorem dX6_of_12 : decode cX6_of 12 = .ok (.invokestatic 70, 3) := by decide +kernel
theorem dX6_of_15 : decode cX6_of 15 = .ok (.ifCond .eq 12, 3) := by decide +kernel
theorem dX6_of_18 : decode cX6_of 18 = .ok (.aload_n 0, 1) := by decide +kernel
theorem dX6_of_19 : decode cX6_of 19 = .ok (.iload_n 1, 1) := by decide +kernel
theorem dX6_of_20 : decode cX6_of 20 = .ok (.iload_n 2, 1) := by decide +kernel
theorem dX6_of_21 : decode cX6_of 21 = .ok (.invokevirtual 123, 3) := by decide +kernel
theorem dX6_of_24 : decode cX6_of 24 = .ok (.goto 9, 3) := by decide +kernel
theorem dX6_of_27 : decode cX6_of 27 = .ok (.aload_n 0, 1) := by decide +kernel
theorem dX6_of_28 : decode cX6_of 28 = .ok (.ldc 60, 2) := by decide +kernel
theorem dX6_of_30 : decode cX6_of 30 = .ok (.invokevirtual 66, 3) := by decide +kernel
theorem dX6_of_33 : decode cX6_of 33 = .ok (.ireturn, 1) := by decide +kernel
def bX6_of_33 (fu : Nat) (σ : mt_St) (y0 : Int32) : Option (Int32 × mt_St) :=
  some (y0, σ)
set_option maxHeartbeats 4000000 in
set_option maxRecDepth 20000 in
theorem vX6_of_33 {K : mt_C} {fu : Nat} {r : Int32} {σf : mt_St} (hQ : mt_R K (some .int) (some (.int r)) σf) : ∀ (σ : mt_St) (y0 : Int32), mt_V K cX6_of RX6 3 4 σ 33 [] [.int y0] (bX6_of_33 fu σ y0 = some (r, σf)) := by
  intro σ y0
  unfold bX6_of_33
  exact mv_iret hQ dX6_of_33
def bX6_of_27 (fu : Nat) (σ : mt_St) : Option (Int32 × mt_St) :=
  mt_call (fX6_finding fu σ (-1000001 : Int32)) fun r1 s2 =>
  bX6_of_33 fu s2 r1
set_option maxHeartbeats 4000000 in
set_option maxRecDepth 20000 in
theorem vX6_of_27 {K : mt_C} {fu : Nat} {r : Int32} {σf : mt_St} (hQ : mt_R K (some .int) (some (.int r)) σf) : ∀ (σ : mt_St), mt_V K cX6_of RX6 3 4 σ 27 [(0, .ref (mt_adr (kG K) 56))] [] (bX6_of_27 fu σ = some (r, σf)) := by
  intro σ
  unfold bX6_of_27
  refine mv_aload_n 0 dX6_of_27 rfl rfl ?_
  refine mv_ldc kc_X6_60 dX6_of_28 ?_
  refine mv_cVwi (As := [.int (-1000001 : Int32)]) (st := []) cal_X6_finding ins_X6_finding ml_X6_66 rfl (by decide) rfl rfl (by decide) rfl (Nat.le_of_ble_eq_true rfl) dX6_of_30 (fun r s h => co_X6_finding h) (fun r1 s2 => ?_)
  refine mv_sub (lv' := []) [] rfl ?_
  exact vX6_of_33 hQ s2 r1
def fX6_of (fu : Nat) (σ : mt_St) (a1 : Int32) (a2 : Int32) : Option (Int32 × mt_St) :=
  mt_ask (fX6_isTreaty fu σ a1) fun r1 =>
  if r1 = 0 then
    bX6_of_27 fu σ
  else
    mt_ask (fX6_within fu a2 (0 : Int32) (12 : Int32)) fun r2 =>
    if r2 = 0 then
      bX6_of_27 fu σ
    else
      mt_ask (fX6_told fu σ a1 a2) fun r3 =>
      bX6_of_33 fu σ r3
set_option maxHeartbeats 4000000 in
set_option maxRecDepth 20000 in
theorem vX6_of {K : mt_C} {fu : Nat} {σ : mt_St} {a1 : Int32} {a2 : Int32} {r : Int32} {σf : mt_St} (hQ : mt_R K (some .int) (some (.int r)) σf) : mt_V K cX6_of RX6 3 4 σ 0 [(0, .ref (mt_adr (kG K) 56)), (1, .int a1), (2, .int a2)] [] (fX6_of fu σ a1 a2 = some (r, σf)) := by
  unfold fX6_of
  refine mv_aload_n 0 dX6_of_0 rfl rfl ?_
  refine mv_iload_n 1 dX6_of_1 rfl rfl ?_
  refine mv_cVri (As := [.int a1]) (st := []) cal_X6_isTreaty ins_X6_isTreaty ml_X6_120 rfl (by decide) rfl rfl (by decide) rfl (Nat.le_of_ble_eq_true rfl) dX6_of_2 (fun r h => co_X6_isTreaty h) (fun r1 => ?_)
  refine mv_if_eq 27 dX6_of_5 (by decide) ?_ ?_
  · refine mv_sub (lv' := [(0, .ref (mt_adr (kG K) 56))]) [0] rfl ?_
    exact vX6_of_27 hQ σ
  · refine mv_iload_n 2 dX6_of_8 rfl rfl ?_
    refine mv_iconst (v := 0) dX6_of_9 ic_0 ?_
    refine mv_bipush (v := 12) dX6_of_10 bp_12 ?_
    refine mv_cSri (As := [.int a2, .int (0 : Int32), .int (12 : Int32)]) (st := []) cal_X6_within sta_X6_within ml_X6_70 rfl (by decide) rfl (Nat.le_of_ble_eq_true rfl) dX6_of_12 (fun r h => co_X6_within h) (fun r2 => ?_)
    refine mv_if_eq 27 dX6_of_15 (by decide) ?_ ?_
    · refine mv_sub (lv' := [(0, .ref (mt_adr (kG K) 56))]) [0] rfl ?_
      exact vX6_of_27 hQ σ
    · refine mv_aload_n 0 dX6_of_18 rfl rfl ?_
      refine mv_iload_n 1 dX6_of_19 rfl rfl ?_
      refine mv_iload_n 2 dX6_of_20 rfl rfl ?_
      refine mv_cVri (As := [.int a1, .int a2]) (st := []) cal_X6_told ins_X6_told ml_X6_123 rfl (by decide) rfl rfl (by decide) rfl (Nat.le_of_ble_eq_true rfl) dX6_of_21 (fun r h => co_X6_told h) (fun r3 => ?_)
      refine mv_goto 33 dX6_of_24 (by decide) ?_
      refine mv_sub (lv' := []) [] rfl ?_
      exact vX6_of_33 hQ σ r3
theorem co_X6_of {l : Launch} {G : mt_G} {fu : Nat} {σ : mt_St} {a1 : Int32} {a2 : Int32} {r : Int32} {σf : mt_St}  (h : fX6_of fu σ a1 a2 = some (r, σf)) : mt_Con l G yX6_of cX6_of 3 (some .int) 4 [.ref (mt_adr G 56), .int a1, .int a2] σ (some (.int r)) σf :=
  mt_con (by decide) (Nat.le_of_ble_eq_true rfl) (fun K hl hG hQ => by subst hl; subst hG; exact fun _ => vX6_of  hQ h)
theorem dX6_isField_0 : decode cX6_isField 0 = .ok (.iload_n 2, 1) := by decide +kernel
theorem dX6_isField_1 : decode cX6_isField 1 = .ok (.tableswitch 98 0 7 #[47, 52, 52, 77, 82, 89, 89, 89], 47) := by decide +kernel
theorem dX6_isField_48 : decode cX6_isField 48 = .ok (.iload_n 3, 1) := by decide +kernel
theorem dX6_isField_49 : decode cX6_isField 49 = .ok (.invokestatic 88, 3) := by decide +kernel
theorem dX6_isField_52 : decode cX6_isField 52 = .ok (.ireturn, 1) := by decide +kernel
theorem dX6_isField_53 : decode cX6_isField 53 = .ok (.iload_n 3, 1) := by decide +kernel
theorem dX6_isField_54 : decode cX6_isField 54 = .ok (.invokestatic 91, 3) := by decide +kernel
theorem dX6_isField_57 : decode cX6_isField 57 = .ok (.ifCond .eq 19, 3) := by decide +kernel
theorem dX6_isField_60 : decode cX6_isField 60 = .ok (.iload_n 3, 1) := by decide +kernel
theorem dX6_isField_61 : decode cX6_isField 61 = .ok (.aload_n 0, 1) := by decide +kernel
theorem dX6_isField_62 : decode cX6_isField 62 = .ok (.iload_n 1, 1) := by decide +kernel
theorem dX6_isField_63 : decode cX6_isField 63 = .ok (.iconst 3, 1) := by decide +kernel
theorem dX6_isField_64 : decode cX6_isField 64 = .ok (.iload_n 2, 1) := by decide +kernel
theorem dX6_isField_65 : decode cX6_isField 65 = .ok (.isub, 1) := by decide +kernel
theorem dX6_isField_66 : decode cX6_isField 66 = .ok (.invokevirtual 99, 3) := by decide +kernel
theorem dX6_isField_69 : decode cX6_isField 69 = .ok (.if_icmp .eq 7, 3) := by decide +kernel
theorem dX6_isField_72 : decode cX6_isField 72 = .ok (.iconst 1, 1) := by decide +kernel
theorem dX6_isField_73 : decode cX6_isField 73 = .ok (.goto 4, 3) := by decide +kernel
theorem dX6_isField_76 : decode cX6_isField 76 = .ok (.iconst 0, 1) := by decide +kernel
theorem dX6_isField_77 : decode cX6_isField 77 = .ok (.ireturn, 1) := by decide +kernel
theorem dX6_isField_78 : decode cX6_isField 78 = .ok (.iload_n 3, 1) := by decide +kernel
theorem dX6_isField_79 : decode cX6_isField 79 = .ok (.invokestatic 74, 3) := by decide +kernel
theorem dX6_isField_82 : decode cX6_isField 82 = .ok (.ireturn, 1) := by decide +kernel
theorem dX6_isField_83 : decode cX6_isField 83 = .ok (.iload_n 3, 1) := by decide +kernel
theorem dX6_isField_84 : decode cX6_isField 84 = .ok (.iconst 0, 1) := by decide +kernel
theorem dX6_isField_85 : decode cX6_isField 85 = .ok (.iconst 1, 1) := by decide +kernel
theorem dX6_isField_86 : decode cX6_isField 86 = .ok (.invokestatic 70, 3) := by decide +kernel
theorem dX6_isField_89 : decode cX6_isField 89 = .ok (.ireturn, 1) := by decide +kernel
theorem dX6_isField_90 : decode cX6_isField 90 = .ok (.iload_n 3, 1) := by decide +kernel
theorem dX6_isField_91 : decode cX6_isField 91 = .ok (.iconst 0, 1) := by decide +kernel
theorem dX6_isField_92 : decode cX6_isField 92 = .ok (.sipush 9999, 3) := by decide +kernel
theorem dX6_isField_95 : decode cX6_isField 95 = .ok (.invokestatic 70, 3) := by decide +kernel
theorem dX6_isField_98 : decode cX6_isField 98 = .ok (.ireturn, 1) := by decide +kernel
theorem dX6_isField_99 : decode cX6_isField 99 = .ok (.iconst 0, 1) := by decide +kernel
theorem dX6_isField_100 : decode cX6_isField 100 = .ok (.ireturn, 1) := by decide +kernel
def bX6_isField_90 (fu : Nat) (σ : mt_St) (x3 : Int32) : Option Int32 :=
  mt_ask (fX6_within fu x3 (0 : Int32) (9999 : Int32)) fun r1 =>
  mt_chk (mt_b01 r1) (some r1)
set_option maxHeartbeats 4000000 in
set_option maxRecDepth 20000 in
theorem vX6_isField_90 {K : mt_C} {fu : Nat} {σ : mt_St} {r : Int32} (hQ : mt_R K (some .boolean) (some (.int r)) σ) : ∀ (x3 : Int32), mt_V K cX6_isField RX6 4 2 σ 90 [(3, .int x3)] [] (bX6_isField_90 fu σ x3 = some r) := by
  intro x3
  unfold bX6_isField_90
  refine mv_iload_n 0 dX6_isField_90 rfl rfl ?_
  refine mv_iconst (v := 0) dX6_isField_91 ic_0 ?_
  refine mv_sipush (v := 9999) dX6_isField_92 sp_9999 ?_
  refine mv_cSri (As := [.int x3, .int (0 : Int32), .int (9999 : Int32)]) (st := []) cal_X6_within sta_X6_within ml_X6_70 rfl (by decide) rfl (Nat.le_of_ble_eq_true rfl) dX6_isField_95 (fun r h => co_X6_within h) (fun r1 => ?_)
  exact mv_zretr hQ dX6_isField_98
def bX6_isField_77 (fu : Nat) (σ : mt_St) (y0 : Int32) : Option Int32 :=
  mt_chk (mt_b01 y0) (some y0)
set_option maxHeartbeats 4000000 in
set_option maxRecDepth 20000 in
theorem vX6_isField_77 {K : mt_C} {fu : Nat} {σ : mt_St} {r : Int32} (hQ : mt_R K (some .boolean) (some (.int r)) σ) : ∀ (y0 : Int32), mt_V K cX6_isField RX6 4 2 σ 77 [] [.int y0] (bX6_isField_77 fu σ y0 = some r) := by
  intro y0
  unfold bX6_isField_77
  exact mv_zretr hQ dX6_isField_77
def bX6_isField_76 (fu : Nat) (σ : mt_St) : Option Int32 :=
  bX6_isField_77 fu σ (0 : Int32)
set_option maxHeartbeats 4000000 in
set_option maxRecDepth 20000 in
theorem vX6_isField_76 {K : mt_C} {fu : Nat} {σ : mt_St} {r : Int32} (hQ : mt_R K (some .boolean) (some (.int r)) σ) : mt_V K cX6_isField RX6 4 2 σ 76 [] [] (bX6_isField_76 fu σ = some r) := by
  unfold bX6_isField_76
  refine mv_iconst (v := 0) dX6_isField_76 ic_0 ?_
  exact vX6_isField_77 hQ (0 : Int32)
def bX6_isField_53 (fu : Nat) (σ : mt_St) (x1 : Int32) (x2 : Int32) (x3 : Int32) : Option Int32 :=
  mt_ask (fX6_isPower fu x3) fun r1 =>
  if r1 = 0 then
    bX6_isField_76 fu σ
  else
    mt_ask (fX6_treatyIs fu σ x1 ((3 : Int32) - x2)) fun r2 =>
    if x3 = r2 then
      bX6_isField_76 fu σ
    else
      bX6_isField_77 fu σ (1 : Int32)
set_option maxHeartbeats 4000000 in
set_option maxRecDepth 20000 in
theorem vX6_isField_53 {K : mt_C} {fu : Nat} {σ : mt_St} {r : Int32} (hQ : mt_R K (some .boolean) (some (.int r)) σ) : ∀ (x1 : Int32) (x2 : Int32) (x3 : Int32), mt_V K cX6_isField RX6 4 2 σ 53 [(0, .ref (mt_adr (kG K) 56)), (1, .int x1), (2, .int x2), (3, .int x3)] [] (bX6_isField_53 fu σ x1 x2 x3 = some r) := by
  intro x1 x2 x3
  unfold bX6_isField_53
  refine mv_iload_n 3 dX6_isField_53 rfl rfl ?_
  refine mv_cSri (As := [.int x3]) (st := []) cal_X6_isPower sta_X6_isPower ml_X6_91 rfl (by decide) rfl (Nat.le_of_ble_eq_true rfl) dX6_isField_54 (fun r h => co_X6_isPower h) (fun r1 => ?_)
  refine mv_if_eq 76 dX6_isField_57 (by decide) ?_ ?_
  · refine mv_sub (lv' := []) [] rfl ?_
    exact vX6_isField_76 hQ
  · refine mv_iload_n 3 dX6_isField_60 rfl rfl ?_
    refine mv_aload_n 0 dX6_isField_61 rfl rfl ?_
    refine mv_iload_n 1 dX6_isField_62 rfl rfl ?_
    refine mv_iconst (v := 3) dX6_isField_63 ic_3 ?_
    refine mv_iload_n 2 dX6_isField_64 rfl rfl ?_
    refine mv_isub dX6_isField_65 ?_
    refine mv_cVri (As := [.int x1, .int ((3 : Int32) - x2)]) (st := [.int x3]) cal_X6_treatyIs ins_X6_treatyIs ml_X6_99 rfl (by decide) rfl rfl (by decide) rfl (Nat.le_of_ble_eq_true rfl) dX6_isField_66 (fun r h => co_X6_treatyIs h) (fun r2 => ?_)
    refine mv_icmp_eq 76 dX6_isField_69 (by decide) ?_ ?_
    · refine mv_sub (lv' := []) [] rfl ?_
      exact vX6_isField_76 hQ
    · refine mv_iconst (v := 1) dX6_isField_72 ic_1 ?_
      refine mv_goto 77 dX6_isField_73 (by decide) ?_
      refine mv_sub (lv' := []) [] rfl ?_
      exact vX6_isField_77 hQ (1 : Int32)
def fX6_isField (fu : Nat) (σ : mt_St) (a1 : Int32) (a2 : Int32) (a3 : Int32) : Option Int32 :=
  if a2 = 0 then
    mt_ask (fX6_isKind fu a3) fun r1 =>
    mt_chk (mt_b01 r1) (some r1)
  else
  if a2 = 1 then
    bX6_isField_53 fu σ a1 a2 a3
  else
  if a2 = 2 then
    bX6_isField_53 fu σ a1 a2 a3
  else
  if a2 = 3 then
    mt_ask (fX6_isFigures fu a3) fun r2 =>
    mt_chk (mt_b01 r2) (some r2)
  else
  if a2 = 4 then
    mt_ask (fX6_within fu a3 (0 : Int32) (1 : Int32)) fun r3 =>
    mt_chk (mt_b01 r3) (some r3)
  else
  if a2 = 5 then
    bX6_isField_90 fu σ a3
  else
  if a2 = 6 then
    bX6_isField_90 fu σ a3
  else
  if a2 = 7 then
    bX6_isField_90 fu σ a3
  else
  some (0 : Int32)
set_option maxHeartbeats 4000000 in
set_option maxRecDepth 20000 in
theorem vX6_isField {K : mt_C} {fu : Nat} {σ : mt_St} {a1 : Int32} {a2 : Int32} {a3 : Int32} {r : Int32} (hQ : mt_R K (some .boolean) (some (.int r)) σ) : mt_V K cX6_isField RX6 4 2 σ 0 [(0, .ref (mt_adr (kG K) 56)), (1, .int a1), (2, .int a2), (3, .int a3)] [] (fX6_isField fu σ a1 a2 a3 = some r) := by
  unfold fX6_isField
  refine mv_iload_n 2 dX6_isField_0 rfl rfl ?_
  refine mv_case (fun e0 => ?_) (fun n0 => ?_)
  · refine mv_tsin 0 48 e0 dX6_isField_1 (by decide) (by decide) rfl (by decide) ?_
    refine mv_iload_n 3 dX6_isField_48 rfl rfl ?_
    refine mv_cSri (As := [.int a3]) (st := []) cal_X6_isKind sta_X6_isKind ml_X6_88 rfl (by decide) rfl (Nat.le_of_ble_eq_true rfl) dX6_isField_49 (fun r h => co_X6_isKind h) (fun r1 => ?_)
    exact mv_zretr hQ dX6_isField_52
  refine mv_case (fun e1 => ?_) (fun n1 => ?_)
  · refine mv_tsin 1 53 e1 dX6_isField_1 (by decide) (by decide) rfl (by decide) ?_
    exact vX6_isField_53 hQ a1 a2 a3
  refine mv_case (fun e2 => ?_) (fun n2 => ?_)
  · refine mv_tsin 2 53 e2 dX6_isField_1 (by decide) (by decide) rfl (by decide) ?_
    exact vX6_isField_53 hQ a1 a2 a3
  refine mv_case (fun e3 => ?_) (fun n3 => ?_)
  · refine mv_tsin 3 78 e3 dX6_isField_1 (by decide) (by decide) rfl (by decide) ?_
    refine mv_iload_n 3 dX6_isField_78 rfl rfl ?_
    refine mv_cSri (As := [.int a3]) (st := []) cal_X6_isFigures sta_X6_isFigures ml_X6_74 rfl (by decide) rfl (Nat.le_of_ble_eq_true rfl) dX6_isField_79 (fun r h => co_X6_isFigures h) (fun r2 => ?_)
    exact mv_zretr hQ dX6_isField_82
  refine mv_case (fun e4 => ?_) (fun n4 => ?_)
  · refine mv_tsin 4 83 e4 dX6_isField_1 (by decide) (by decide) rfl (by decide) ?_
    refine mv_iload_n 3 dX6_isField_83 rfl rfl ?_
    refine mv_iconst (v := 0) dX6_isField_84 ic_0 ?_
    refine mv_iconst (v := 1) dX6_isField_85 ic_1 ?_
    refine mv_cSri (As := [.int a3, .int (0 : Int32), .int (1 : Int32)]) (st := []) cal_X6_within sta_X6_within ml_X6_70 rfl (by decide) rfl (Nat.le_of_ble_eq_true rfl) dX6_isField_86 (fun r h => co_X6_within h) (fun r3 => ?_)
    exact mv_zretr hQ dX6_isField_89
  refine mv_case (fun e5 => ?_) (fun n5 => ?_)
  · refine mv_tsin 5 90 e5 dX6_isField_1 (by decide) (by decide) rfl (by decide) ?_
    refine mv_sub (lv' := [(3, .int a3)]) [3] rfl ?_
    exact vX6_isField_90 hQ a3
  refine mv_case (fun e6 => ?_) (fun n6 => ?_)
  · refine mv_tsin 6 90 e6 dX6_isField_1 (by decide) (by decide) rfl (by decide) ?_
    refine mv_sub (lv' := [(3, .int a3)]) [3] rfl ?_
    exact vX6_isField_90 hQ a3
  refine mv_case (fun e7 => ?_) (fun n7 => ?_)
  · refine mv_tsin 7 90 e7 dX6_isField_1 (by decide) (by decide) rfl (by decide) ?_
    refine mv_sub (lv' := [(3, .int a3)]) [3] rfl ?_
    exact vX6_isField_90 hQ a3
  refine mv_tsout 99 (by have z0 := mt_ne (z := 0) n0 (by decide); have z1 := mt_ne (z := 1) n1 (by decide); have z2 := mt_ne (z := 2) n2 (by decide); have z3 := mt_ne (z := 3) n3 (by decide); have z4 := mt_ne (z := 4) n4 (by decide); have z5 := mt_ne (z := 5) n5 (by decide); have z6 := mt_ne (z := 6) n6 (by decide); have z7 := mt_ne (z := 7) n7 (by decide); omega) dX6_isField_1 (by decide) ?_
  refine mv_iconst (v := 0) dX6_isField_99 ic_0 ?_
  exact mv_zretr0 hQ (by decide) dX6_isField_100
theorem co_X6_isField {l : Launch} {G : mt_G} {fu : Nat} {σ : mt_St} {a1 : Int32} {a2 : Int32} {a3 : Int32} {r : Int32}  (h : fX6_isField fu σ a1 a2 a3 = some r) : mt_Con l G yX6_isField cX6_isField 4 (some .boolean) 2 [.ref (mt_adr G 56), .int a1, .int a2, .int a3] σ (some (.int r)) σ :=
  mt_con (by decide) (Nat.le_of_ble_eq_true rfl) (fun K hl hG hQ => by subst hl; subst hG; exact fun _ => vX6_isField  hQ h)
theorem dX6_change_0 : decode cX6_change 0 = .ok (.aload_n 0, 1) := by decide +kernel
theorem dX6_change_1 : decode cX6_change 1 = .ok (.iload_n 1, 1) := by decide +kernel
theorem dX6_change_2 : decode cX6_change 2 = .ok (.invokevirtual 120, 3) := by decide +kernel
theorem dX6_change_5 : decode cX6_change 5 = .ok (.ifCond .eq 26, 3) := by decide +kernel
theorem dX6_change_8 : decode cX6_change 8 = .ok (.aload_n 0, 1) := by decide +kernel
theorem dX6_change_9 : decode cX6_change 9 = .ok (.iload_n 1, 1) := by decide +kernel
theorem dX6_change_10 : decode cX6_change 10 = .ok (.iload_n 2, 1) := by decide +kernel
theorem dX6_change_11 : decode cX6_change 11 = .ok (.iload_n 3, 1) := by decide +kernel
theorem dX6_change_12 : decode cX6_change 12 = .ok (.invokevirtual 126, 3) := by decide +kernel
theorem dX6_change_15 : decode cX6_change 15 = .ok (.ifCond .eq 16, 3) := by decide +kernel
theorem dX6_change_18 : decode cX6_change 18 = .ok (.aload_n 0, 1) := by decide +kernel
theorem dX6_change_19 : decode cX6_change 19 = .ok (.iload_n 1, 1) := by decide +kernel
theorem dX6_change_20 : decode cX6_change 20 = .ok (.iload_n 2, 1) := by decide +kernel
theorem dX6_change_21 : decode cX6_change 21 = .ok (.invokestatic 85, 3) := by decide +kernel
theorem dX6_change_24 : decode cX6_change 24 = .ok (.iload_n 3, 1) := by decide +kernel
theorem dX6_change_25 : decode cX6_change 25 = .ok (.invokevirtual 78, 3) := by decide +kernel
theorem dX6_change_28 : decode cX6_change 28 = .ok (.goto 9, 3) := by decide +kernel
theorem dX6_change_31 : decode cX6_change 31 = .ok (.aload_n 0, 1) := by decide +kernel
theorem dX6_change_32 : decode cX6_change 32 = .ok (.ldc 60, 2) := by decide +kernel
theorem dX6_change_34 : decode cX6_change 34 = .ok (.invokevirtual 66, 3) := by decide +kernel
theorem dX6_change_37 : decode cX6_change 37 = .ok (.ireturn, 1) := by decide +kernel
def bX6_change_37 (fu : Nat) (σ : mt_St) (y0 : Int32) : Option (Int32 × mt_St) :=
  some (y0, σ)
set_option maxHeartbeats 4000000 in
set_option maxRecDepth 20000 in
theorem vX6_change_37 {K : mt_C} {fu : Nat} {r : Int32} {σf : mt_St} (hQ : mt_R K (some .int) (some (.int r)) σf) : ∀ (σ : mt_St) (y0 : Int32), mt_V K cX6_change RX6 4 3 σ 37 [] [.int y0] (bX6_change_37 fu σ y0 = some (r, σf)) := by
  intro σ y0
  unfold bX6_change_37
  exact mv_iret hQ dX6_change_37
def bX6_change_31 (fu : Nat) (σ : mt_St) : Option (Int32 × mt_St) :=
  mt_call (fX6_finding fu σ (-1000001 : Int32)) fun r1 s2 =>
  bX6_change_37 fu s2 r1
set_option maxHeartbeats 4000000 in
set_option maxRecDepth 20000 in
theorem vX6_change_31 {K : mt_C} {fu : Nat} {r : Int32} {σf : mt_St} (hQ : mt_R K (some .int) (some (.int r)) σf) : ∀ (σ : mt_St), mt_V K cX6_change RX6 4 3 σ 31 [(0, .ref (mt_adr (kG K) 56))] [] (bX6_change_31 fu σ = some (r, σf)) := by
  intro σ
  unfold bX6_change_31
  refine mv_aload_n 0 dX6_change_31 rfl rfl ?_
  refine mv_ldc kc_X6_60 dX6_change_32 ?_
  refine mv_cVwi (As := [.int (-1000001 : Int32)]) (st := []) cal_X6_finding ins_X6_finding ml_X6_66 rfl (by decide) rfl rfl (by decide) rfl (Nat.le_of_ble_eq_true rfl) dX6_change_34 (fun r s h => co_X6_finding h) (fun r1 s2 => ?_)
  refine mv_sub (lv' := []) [] rfl ?_
  exact vX6_change_37 hQ s2 r1
def fX6_change (fu : Nat) (σ : mt_St) (a1 : Int32) (a2 : Int32) (a3 : Int32) : Option (Int32 × mt_St) :=
  mt_ask (fX6_isTreaty fu σ a1) fun r1 =>
  if r1 = 0 then
    bX6_change_31 fu σ
  else
    mt_ask (fX6_isField fu σ a1 a2 a3) fun r2 =>
    if r2 = 0 then
      bX6_change_31 fu σ
    else
      mt_ask (fX6_treatyAt fu a1 a2) fun r3 =>
      mt_call (fX6_become fu σ r3 a3) fun r4 s5 =>
      bX6_change_37 fu s5 r4
set_option maxHeartbeats 4000000 in
set_option maxRecDepth 20000 in
theorem vX6_change {K : mt_C} {fu : Nat} {σ : mt_St} {a1 : Int32} {a2 : Int32} {a3 : Int32} {r : Int32} {σf : mt_St} (hQ : mt_R K (some .int) (some (.int r)) σf) : mt_V K cX6_change RX6 4 3 σ 0 [(0, .ref (mt_adr (kG K) 56)), (1, .int a1), (2, .int a2), (3, .int a3)] [] (fX6_change fu σ a1 a2 a3 = some (r, σf)) := by
  unfold fX6_change
  refine mv_aload_n 0 dX6_change_0 rfl rfl ?_
  refine mv_iload_n 1 dX6_change_1 rfl rfl ?_
  refine mv_cVri (As := [.int a1]) (st := []) cal_X6_isTreaty ins_X6_isTreaty ml_X6_120 rfl (by decide) rfl rfl (by decide) rfl (Nat.le_of_ble_eq_true rfl) dX6_change_2 (fun r h => co_X6_isTreaty h) (fun r1 => ?_)
  refine mv_if_eq 31 dX6_change_5 (by decide) ?_ ?_
  · refine mv_sub (lv' := [(0, .ref (mt_adr (kG K) 56))]) [0] rfl ?_
    exact vX6_change_31 hQ σ
  · refine mv_aload_n 0 dX6_change_8 rfl rfl ?_
    refine mv_iload_n 1 dX6_change_9 rfl rfl ?_
    refine mv_iload_n 2 dX6_change_10 rfl rfl ?_
    refine mv_iload_n 3 dX6_change_11 rfl rfl ?_
    refine mv_cVri (As := [.int a1, .int a2, .int a3]) (st := []) cal_X6_isField ins_X6_isField ml_X6_126 rfl (by decide) rfl rfl (by decide) rfl (Nat.le_of_ble_eq_true rfl) dX6_change_12 (fun r h => co_X6_isField h) (fun r2 => ?_)
    refine mv_if_eq 31 dX6_change_15 (by decide) ?_ ?_
    · refine mv_sub (lv' := [(0, .ref (mt_adr (kG K) 56))]) [0] rfl ?_
      exact vX6_change_31 hQ σ
    · refine mv_aload_n 0 dX6_change_18 rfl rfl ?_
      refine mv_iload_n 1 dX6_change_19 rfl rfl ?_
      refine mv_iload_n 2 dX6_change_20 rfl rfl ?_
      refine mv_cSri (As := [.int a1, .int a2]) (st := [.ref (mt_adr (kG K) 56)]) cal_X6_treatyAt sta_X6_treatyAt ml_X6_85 rfl (by decide) rfl (Nat.le_of_ble_eq_true rfl) dX6_change_21 (fun r h => co_X6_treatyAt h) (fun r3 => ?_)
      refine mv_iload_n 3 dX6_change_24 rfl rfl ?_
      refine mv_cVwi (As := [.int r3, .int a3]) (st := []) cal_X6_become ins_X6_become ml_X6_78 rfl (by decide) rfl rfl (by decide) rfl (Nat.le_of_ble_eq_true rfl) dX6_change_25 (fun r s h => co_X6_become h) (fun r4 s5 => ?_)
      refine mv_goto 37 dX6_change_28 (by decide) ?_
      refine mv_sub (lv' := []) [] rfl ?_
      exact vX6_change_37 hQ s5 r4
theorem co_X6_change {l : Launch} {G : mt_G} {fu : Nat} {σ : mt_St} {a1 : Int32} {a2 : Int32} {a3 : Int32} {r : Int32} {σf : mt_St}  (h : fX6_change fu σ a1 a2 a3 = some (r, σf)) : mt_Con l G yX6_change cX6_change 4 (some .int) 3 [.ref (mt_adr G 56), .int a1, .int a2, .int a3] σ (some (.int r)) σf :=
  mt_con (by decide) (Nat.le_of_ble_eq_true rfl) (fun K hl hG hQ => by subst hl; subst hG; exact fun _ => vX6_change  hQ h)
theorem dX6_areBetween_0 : decode cX6_areBetween 0 = .ok (.aload_n 0, 1) := by decide +kernel
theorem dX6_areBetween_1 : decode cX6_areBetween 1 = .ok (.iload_n 1, 1) := by decide +kernel
theorem dX6_areBetween_2 : decode cX6_areBetween 2 = .ok (.iconst 1, 1) := by decide +kernel
theorem dX6_areBetween_3 : decode cX6_areBetween 3 = .ok (.invokevirtual 99, 3) := by decide +kernel
theorem dX6_areBetween_6 : decode cX6_areBetween 6 = .ok (.istore 4, 2) := by decide +kernel
theorem dX6_areBetween_8 : decode cX6_areBetween 8 = .ok (.aload_n 0, 1) := by decide +kernel
theorem dX6_areBetween_9 : decode cX6_areBetween 9 = .ok (.iload_n 1, 1) := by decide +kernel
theorem dX6_areBetween_10 : decode cX6_areBetween 10 = .ok (.iconst 2, 1) := by decide +kernel
theorem dX6_areBetween_11 : decode cX6_areBetween 11 = .ok (.invokevirtual 99, 3) := by decide +kernel
theorem dX6_areBetween_14 : decode cX6_areBetween 14 = .ok (.istore 5, 2) := by decide +kernel
theorem dX6_areBetween_16 : decode cX6_areBetween 16 = .ok (.iload 4, 2) := by decide +kernel
theorem dX6_areBetween_18 : decode cX6_areBetween 18 = .ok (.iload_n 2, 1) := by decide +kernel
theorem dX6_areBetween_19 : decode cX6_areBetween 19 = .ok (.if_icmp .ne 9, 3) := by decide +kernel
theorem dX6_areBetween_22 : decode cX6_areBetween 22 = .ok (.iload 5, 2) := by decide +kernel
theorem dX6_areBetween_24 : decode cX6_areBetween 24 = .ok (.iload_n 3, 1) := by decide +kernel
theorem dX6_areBetween_25 : decode cX6_areBetween 25 = .ok (.if_icmp .eq 15, 3) := by decide +kernel
theorem dX6_areBetween_28 : decode cX6_areBetween 28 = .ok (.iload 4, 2) := by decide +kernel
theorem dX6_areBetween_30 : decode cX6_areBetween 30 = .ok (.iload_n 3, 1) := by decide +kernel
theorem dX6_areBetween_31 : decode cX6_areBetween 31 = .ok (.if_icmp .ne 13, 3) := by decide +kernel
theorem dX6_areBetween_34 : decode cX6_areBetween 34 = .ok (.iload 5, 2) := by decide +kernel
theorem dX6_areBetween_36 : decode cX6_areBetween 36 = .ok (.iload_n 2, 1) := by decide +kernel
theorem dX6_areBetween_37 : decode cX6_areBetween 37 = .ok (.if_icmp .ne 7, 3) := by decide +kernel
theorem dX6_areBetween_40 : decode cX6_areBetween 40 = .ok (.iconst 1, 1) := by decide +kernel
theorem dX6_areBetween_41 : decode cX6_areBetween 41 = .ok (.goto 4, 3) := by decide +kernel
theorem dX6_areBetween_44 : decode cX6_areBetween 44 = .ok (.iconst 0, 1) := by decide +kernel
theorem dX6_areBetween_45 : decode cX6_areBetween 45 = .ok (.ireturn, 1) := by decide +kernel
def bX6_areBetween_45 (fu : Nat) (σ : mt_St) (y0 : Int32) : Option Int32 :=
  mt_chk (mt_b01 y0) (some y0)
set_option maxHeartbeats 4000000 in
set_option maxRecDepth 20000 in
theorem vX6_areBetween_45 {K : mt_C} {fu : Nat} {σ : mt_St} {r : Int32} (hQ : mt_R K (some .boolean) (some (.int r)) σ) : ∀ (y0 : Int32), mt_V K cX6_areBetween RX6 6 2 σ 45 [] [.int y0] (bX6_areBetween_45 fu σ y0 = some r) := by
  intro y0
  unfold bX6_areBetween_45
  exact mv_zretr hQ dX6_areBetween_45
def bX6_areBetween_44 (fu : Nat) (σ : mt_St) : Option Int32 :=
  bX6_areBetween_45 fu σ (0 : Int32)
set_option maxHeartbeats 4000000 in
set_option maxRecDepth 20000 in
theorem vX6_areBetween_44 {K : mt_C} {fu : Nat} {σ : mt_St} {r : Int32} (hQ : mt_R K (some .boolean) (some (.int r)) σ) : mt_V K cX6_areBetween RX6 6 2 σ 44 [] [] (bX6_areBetween_44 fu σ = some r) := by
  unfold bX6_areBetween_44
  refine mv_iconst (v := 0) dX6_areBetween_44 ic_0 ?_
  exact vX6_areBetween_45 hQ (0 : Int32)
def bX6_areBetween_40 (fu : Nat) (σ : mt_St) : Option Int32 :=
  bX6_areBetween_45 fu σ (1 : Int32)
set_option maxHeartbeats 4000000 in
set_option maxRecDepth 20000 in
theorem vX6_areBetween_40 {K : mt_C} {fu : Nat} {σ : mt_St} {r : Int32} (hQ : mt_R K (some .boolean) (some (.int r)) σ) : mt_V K cX6_areBetween RX6 6 2 σ 40 [] [] (bX6_areBetween_40 fu σ = some r) := by
  unfold bX6_areBetween_40
  refine mv_iconst (v := 1) dX6_areBetween_40 ic_1 ?_
  refine mv_goto 45 dX6_areBetween_41 (by decide) ?_
  exact vX6_areBetween_45 hQ (1 : Int32)
def bX6_areBetween_28 (fu : Nat) (σ : mt_St) (x2 : Int32) (x3 : Int32) (x4 : Int32) (x5 : Int32) : Option Int32 :=
  if x4 = x3 then
    if x5 = x2 then
      bX6_areBetween_40 fu σ
    else
      bX6_areBetween_44 fu σ
  else
    bX6_areBetween_44 fu σ
set_option maxHeartbeats 4000000 in
set_option maxRecDepth 20000 in
theorem vX6_areBetween_28 {K : mt_C} {fu : Nat} {σ : mt_St} {r : Int32} (hQ : mt_R K (some .boolean) (some (.int r)) σ) : ∀ (x2 : Int32) (x3 : Int32) (x4 : Int32) (x5 : Int32), mt_V K cX6_areBetween RX6 6 2 σ 28 [(2, .int x2), (3, .int x3), (4, .int x4), (5, .int x5)] [] (bX6_areBetween_28 fu σ x2 x3 x4 x5 = some r) := by
  intro x2 x3 x4 x5
  unfold bX6_areBetween_28
  refine mv_iload 2 dX6_areBetween_28 rfl ?_
  refine mv_iload_n 1 dX6_areBetween_30 rfl rfl ?_
  refine mv_icmp_ne 44 dX6_areBetween_31 (by decide) ?_ ?_
  · refine mv_sub (lv' := []) [] rfl ?_
    exact vX6_areBetween_44 hQ
  · refine mv_iload 3 dX6_areBetween_34 rfl ?_
    refine mv_iload_n 0 dX6_areBetween_36 rfl rfl ?_
    refine mv_icmp_ne 44 dX6_areBetween_37 (by decide) ?_ ?_
    · refine mv_sub (lv' := []) [] rfl ?_
      exact vX6_areBetween_44 hQ
    · refine mv_sub (lv' := []) [] rfl ?_
      exact vX6_areBetween_40 hQ
def fX6_areBetween (fu : Nat) (σ : mt_St) (a1 : Int32) (a2 : Int32) (a3 : Int32) : Option Int32 :=
  mt_ask (fX6_treatyIs fu σ a1 (1 : Int32)) fun r1 =>
  mt_ask (fX6_treatyIs fu σ a1 (2 : Int32)) fun r2 =>
  if r1 = a2 then
    if r2 = a3 then
      bX6_areBetween_40 fu σ
    else
      bX6_areBetween_28 fu σ a2 a3 r1 r2
  else
    bX6_areBetween_28 fu σ a2 a3 r1 r2
set_option maxHeartbeats 4000000 in
set_option maxRecDepth 20000 in
theorem vX6_areBetween {K : mt_C} {fu : Nat} {σ : mt_St} {a1 : Int32} {a2 : Int32} {a3 : Int32} {r : Int32} (hQ : mt_R K (some .boolean) (some (.int r)) σ) : mt_V K cX6_areBetween RX6 6 2 σ 0 [(0, .ref (mt_adr (kG K) 56)), (1, .int a1), (2, .int a2), (3, .int a3)] [] (fX6_areBetween fu σ a1 a2 a3 = some r) := by
  unfold fX6_areBetween
  refine mv_aload_n 0 dX6_areBetween_0 rfl rfl ?_
  refine mv_iload_n 1 dX6_areBetween_1 rfl rfl ?_
  refine mv_iconst (v := 1) dX6_areBetween_2 ic_1 ?_
  refine mv_cVri (As := [.int a1, .int (1 : Int32)]) (st := []) cal_X6_treatyIs ins_X6_treatyIs ml_X6_99 rfl (by decide) rfl rfl (by decide) rfl (Nat.le_of_ble_eq_true rfl) dX6_areBetween_3 (fun r h => co_X6_treatyIs h) (fun r1 => ?_)
  refine mv_istore (lv' := [(0, .ref (mt_adr (kG K) 56)), (1, .int a1), (2, .int a2), (3, .int a3), (4, .int r1)]) [1, 2, 3, 4, 0] dX6_areBetween_6 (by decide) rfl ?_
  refine mv_aload_n 0 dX6_areBetween_8 rfl rfl ?_
  refine mv_iload_n 1 dX6_areBetween_9 rfl rfl ?_
  refine mv_iconst (v := 2) dX6_areBetween_10 ic_2 ?_
  refine mv_cVri (As := [.int a1, .int (2 : Int32)]) (st := []) cal_X6_treatyIs ins_X6_treatyIs ml_X6_99 rfl (by decide) rfl rfl (by decide) rfl (Nat.le_of_ble_eq_true rfl) dX6_areBetween_11 (fun r h => co_X6_treatyIs h) (fun r2 => ?_)
  refine mv_istore (lv' := [(2, .int a2), (3, .int a3), (4, .int r1), (5, .int r2)]) [3, 4, 5, 0] dX6_areBetween_14 (by decide) rfl ?_
  refine mv_iload 2 dX6_areBetween_16 rfl ?_
  refine mv_iload_n 0 dX6_areBetween_18 rfl rfl ?_
  refine mv_icmp_ne 28 dX6_areBetween_19 (by decide) ?_ ?_
  · exact vX6_areBetween_28 hQ a2 a3 r1 r2
  · refine mv_iload 3 dX6_areBetween_22 rfl ?_
    refine mv_iload_n 1 dX6_areBetween_24 rfl rfl ?_
    refine mv_icmp_eq 40 dX6_areBetween_25 (by decide) ?_ ?_
    · refine mv_sub (lv' := []) [] rfl ?_
      exact vX6_areBetween_40 hQ
    · exact vX6_areBetween_28 hQ a2 a3 r1 r2
theorem co_X6_areBetween {l : Launch} {G : mt_G} {fu : Nat} {σ : mt_St} {a1 : Int32} {a2 : Int32} {a3 : Int32} {r : Int32}  (h : fX6_areBetween fu σ a1 a2 a3 = some r) : mt_Con l G yX6_areBetween cX6_areBetween 6 (some .boolean) 2 [.ref (mt_adr G 56), .int a1, .int a2, .int a3] σ (some (.int r)) σ :=
  mt_con (by decide) (Nat.le_of_ble_eq_true rfl) (fun K hl hG hQ => by subst hl; subst hG; exact fun _ => vX6_areBetween  hQ h)
theorem dX6_isWar_0 : decode cX6_isWar 0 = .ok (.iconst 0, 1) := by decide +kernel
theorem dX6_isWar_1 : decode cX6_isWar 1 = .ok (.istore_n 3, 1) := by decide +kernel
theorem dX6_isWar_2 : decode cX6_isWar 2 = .ok (.iconst 0, 1) := by decide +kernel
theorem dX6_isWar_3 : decode cX6_isWar 3 = .ok (.istore 4, 2) := by decide +kernel
theorem dX6_isWar_5 : decode cX6_isWar 5 = .ok (.iload 4, 2) := by decide +kernel
theorem dX6_isWar_7 : decode cX6_isWar 7 = .ok (.aload_n 0, 1) := by decide +kernel
theorem dX6_isWar_8 : decode cX6_isWar 8 = .ok (.getfield 9, 3) := by decide +kernel
theorem dX6_isWar_11 : decode cX6_isWar 11 = .ok (.iconst 1, 1) := by decide +kernel
theorem dX6_isWar_12 : decode cX6_isWar 12 = .ok (.iaload, 1) := by decide +kernel
theorem dX6_isWar_13 : decode cX6_isWar 13 = .ok (.if_icmp .ge 35, 3) := by decide +kernel
theorem dX6_isWar_16 : decode cX6_isWar 16 = .ok (.aload_n 0, 1) := by decide +kernel
theorem dX6_isWar_17 : decode cX6_isWar 17 = .ok (.iload 4, 2) := by decide +kernel
theorem dX6_isWar_19 : decode cX6_isWar 19 = .ok (.iload_n 1, 1) := by decide +kernel
theorem dX6_isWar_20 : decode cX6_isWar 20 = .ok (.iload_n 2, 1) := by decide +kernel
theorem dX6_isWar_21 : decode cX6_isWar 21 = .ok (.invokevirtual 129, 3) := by decide +kernel
theorem dX6_isWar_24 : decode cX6_isWar 24 = .ok (.ifCond .eq 18, 3) := by decide +kernel
theorem dX6_isWar_27 : decode cX6_isWar 27 = .ok (.aload_n 0, 1) := by decide +kernel
theorem dX6_isWar_28 : decode cX6_isWar 28 = .ok (.iload 4, 2) := by decide +kernel
theorem dX6_isWar_30 : decode cX6_isWar 30 = .ok (.iconst 4, 1) := by decide +kernel
theorem dX6_isWar_31 : decode cX6_isWar 31 = .ok (.invokevirtual 99, 3) := by decide +kernel
theorem dX6_isWar_34 : decode cX6_isWar 34 = .ok (.iconst 1, 1) := by decide +kernel
theorem dX6_isWar_35 : decode cX6_isWar 35 = .ok (.if_icmp .ne 5, 3) := by decide +kernel
theorem dX6_isWar_38 : decode cX6_isWar 38 = .ok (.iconst 0, 1) := by decide +kernel
theorem dX6_isWar_39 : decode cX6_isWar 39 = .ok (.ireturn, 1) := by decide +kernel
theorem dX6_isWar_40 : decode cX6_isWar 40 = .ok (.iconst 1, 1) := by decide +kernel
theorem dX6_isWar_41 : decode cX6_isWar 41 = .ok (.istore_n 3, 1) := by decide +kernel
theorem dX6_isWar_42 : decode cX6_isWar 42 = .ok (.iinc 4 1, 3) := by decide +kernel
theorem dX6_isWar_45 : decode cX6_isWar 45 = .ok (.goto (-40), 3) := by decide +kernel
theorem dX6_isWar_48 : decode cX6_isWar 48 = .ok (.iload_n 3, 1) := by decide +kernel
theorem dX6_isWar_49 : decode cX6_isWar 49 = .ok (.ireturn, 1) := by decide +kernel
def bX6_isWar_42 (fu : Nat) (σ : mt_St) (k5 : Int32 → Int32 → Int32 → Int32 → Option Int32) (x1 : Int32) (x2 : Int32) (x3 : Int32) (x4 : Int32) : Option Int32 :=
  k5 x1 x2 x3 (x4 + 1)
set_option maxHeartbeats 4000000 in
set_option maxRecDepth 20000 in
theorem vX6_isWar_42 {K : mt_C} {fu : Nat} {σ : mt_St} {r : Int32} (hQ : mt_R K (some .boolean) (some (.int r)) σ) {k5 : Int32 → Int32 → Int32 → Int32 → Option Int32} (hk5 : ∀ (x1 : Int32) (x2 : Int32) (x3 : Int32) (x4 : Int32), mt_V K cX6_isWar RX6 5 3 σ 5 [(0, .ref (mt_adr (kG K) 56)), (1, .int x1), (2, .int x2), (3, .int x3), (4, .int x4)] [] (k5 x1 x2 x3 x4 = some r)) : ∀ (x1 : Int32) (x2 : Int32) (x3 : Int32) (x4 : Int32), mt_V K cX6_isWar RX6 5 3 σ 42 [(0, .ref (mt_adr (kG K) 56)), (1, .int x1), (2, .int x2), (3, .int x3), (4, .int x4)] [] (bX6_isWar_42 fu σ k5 x1 x2 x3 x4 = some r) := by
  intro x1 x2 x3 x4
  unfold bX6_isWar_42
  refine mv_iinc (k0 := 4) (v := x4 + 1) (lv' := [(0, .ref (mt_adr (kG K) 56)), (1, .int x1), (2, .int x2), (3, .int x3), (4, .int (x4 + 1))]) [1, 2, 3, 4, 0] dX6_isWar_42 rfl (mt_inc ic_1) (by decide) rfl ?_
  refine mv_goto 5 dX6_isWar_45 (by decide) ?_
  exact hk5 x1 x2 x3 (x4 + 1)
def bX6_isWar_5 (fu : Nat) (σ : mt_St) : Nat → Int32 → Int32 → Int32 → Int32 → Option Int32
  | 0, _, _, _, _ => none
  | n + 1, x1, x2, x3, x4 =>
    if (σ 57 1) ≤ x4 then
      mt_chk (mt_b01 x3) (some x3)
    else
      mt_ask (fX6_areBetween fu σ x4 x1 x2) fun r1 =>
      if r1 = 0 then
        bX6_isWar_42 fu σ (fun x1 x2 x3 x4 => bX6_isWar_5 fu σ n x1 x2 x3 x4) x1 x2 x3 x4
      else
        mt_ask (fX6_treatyIs fu σ x4 (4 : Int32)) fun r2 =>
        if r2 = (1 : Int32) then
          some (0 : Int32)
        else
          bX6_isWar_42 fu σ (fun x1 x2 x3 x4 => bX6_isWar_5 fu σ n x1 x2 x3 x4) x1 x2 (1 : Int32) x4
set_option maxHeartbeats 4000000 in
set_option maxRecDepth 20000 in
theorem vX6_isWar_5 {K : mt_C} {fu : Nat} {σ : mt_St} {r : Int32} (hQ : mt_R K (some .boolean) (some (.int r)) σ) : ∀ (n : Nat) (x1 : Int32) (x2 : Int32) (x3 : Int32) (x4 : Int32), mt_V K cX6_isWar RX6 5 3 σ 5 [(0, .ref (mt_adr (kG K) 56)), (1, .int x1), (2, .int x2), (3, .int x3), (4, .int x4)] [] (bX6_isWar_5 fu σ n x1 x2 x3 x4 = some r) := by
  intro n
  induction n with
  | zero => intro x1 x2 x3 x4; intro hP; unfold bX6_isWar_5 at hP; cases hP
  | succ n ih =>
    intro x1 x2 x3 x4
    unfold bX6_isWar_5
    refine mv_iload 4 dX6_isWar_5 rfl ?_
    refine mv_aload_n 0 dX6_isWar_7 rfl rfl ?_
    refine mg_X6_0 fl_X6_9 dX6_isWar_8 ?_
    refine mv_iconst (v := 1) dX6_isWar_11 ic_1 ?_
    refine mv_ialdk 86 1 rfl rfl (by decide) (by decide) dX6_isWar_12 ?_
    refine mv_icmp_ge 48 dX6_isWar_13 (by decide) ?_ ?_
    · refine mv_iload_n 3 dX6_isWar_48 rfl rfl ?_
      exact mv_zretr hQ dX6_isWar_49
    · refine mv_aload_n 0 dX6_isWar_16 rfl rfl ?_
      refine mv_iload 4 dX6_isWar_17 rfl ?_
      refine mv_iload_n 1 dX6_isWar_19 rfl rfl ?_
      refine mv_iload_n 2 dX6_isWar_20 rfl rfl ?_
      refine mv_cVri (As := [.int x4, .int x1, .int x2]) (st := []) cal_X6_areBetween ins_X6_areBetween ml_X6_129 rfl (by decide) rfl rfl (by decide) rfl (Nat.le_of_ble_eq_true rfl) dX6_isWar_21 (fun r h => co_X6_areBetween h) (fun r1 => ?_)
      refine mv_if_eq 42 dX6_isWar_24 (by decide) ?_ ?_
      · exact vX6_isWar_42 hQ (fun x1 x2 x3 x4 => ih x1 x2 x3 x4) x1 x2 x3 x4
      · refine mv_aload_n 0 dX6_isWar_27 rfl rfl ?_
        refine mv_iload 4 dX6_isWar_28 rfl ?_
        refine mv_iconst (v := 4) dX6_isWar_30 ic_4 ?_
        refine mv_cVri (As := [.int x4, .int (4 : Int32)]) (st := []) cal_X6_treatyIs ins_X6_treatyIs ml_X6_99 rfl (by decide) rfl rfl (by decide) rfl (Nat.le_of_ble_eq_true rfl) dX6_isWar_31 (fun r h => co_X6_treatyIs h) (fun r2 => ?_)
        refine mv_iconst (v := 1) dX6_isWar_34 ic_1 ?_
        refine mv_icmp_ne 40 dX6_isWar_35 (by decide) ?_ ?_
        · refine mv_iconst (v := 1) dX6_isWar_40 ic_1 ?_
          refine mv_istore_n (lv' := [(0, .ref (mt_adr (kG K) 56)), (1, .int x1), (2, .int x2), (3, .int (1 : Int32)), (4, .int x4)]) [1, 2, 3, 0, 4] dX6_isWar_41 rfl (by decide) rfl ?_
          exact vX6_isWar_42 hQ (fun x1 x2 x3 x4 => ih x1 x2 x3 x4) x1 x2 (1 : Int32) x4
        · refine mv_iconst (v := 0) dX6_isWar_38 ic_0 ?_
          exact mv_zretr0 hQ (by decide) dX6_isWar_39
def fX6_isWar (fu : Nat) (σ : mt_St) (a1 : Int32) (a2 : Int32) : Option Int32 :=
  bX6_isWar_5 fu σ fu a1 a2 (0 : Int32) (0 : Int32)
set_option maxHeartbeats 4000000 in
set_option maxRecDepth 20000 in
theorem vX6_isWar {K : mt_C} {fu : Nat} {σ : mt_St} {a1 : Int32} {a2 : Int32} {r : Int32} (hQ : mt_R K (some .boolean) (some (.int r)) σ) : mt_V K cX6_isWar RX6 5 3 σ 0 [(0, .ref (mt_adr (kG K) 56)), (1, .int a1), (2, .int a2)] [] (fX6_isWar fu σ a1 a2 = some r) := by
  unfold fX6_isWar
  refine mv_iconst (v := 0) dX6_isWar_0 ic_0 ?_
  refine mv_istore_n (lv' := [(0, .ref (mt_adr (kG K) 56)), (1, .int a1), (2, .int a2), (3, .int (0 : Int32))]) [1, 2, 3, 0] dX6_isWar_1 rfl (by decide) rfl ?_
  refine mv_iconst (v := 0) dX6_isWar_2 ic_0 ?_
  refine mv_istore (lv' := [(0, .ref (mt_adr (kG K) 56)), (1, .int a1), (2, .int a2), (3, .int (0 : Int32)), (4, .int (0 : Int32))]) [1, 2, 3, 4, 0] dX6_isWar_3 (by decide) rfl ?_
  exact vX6_isWar_5 hQ fu a1 a2 (0 : Int32) (0 : Int32)
theorem co_X6_isWar {l : Launch} {G : mt_G} {fu : Nat} {σ : mt_St} {a1 : Int32} {a2 : Int32} {r : Int32}  (h : fX6_isWar fu σ a1 a2 = some r) : mt_Con l G yX6_isWar cX6_isWar 5 (some .boolean) 3 [.ref (mt_adr G 56), .int a1, .int a2] σ (some (.int r)) σ :=
  mt_con (by decide) (Nat.le_of_ble_eq_true rfl) (fun K hl hG hQ => by subst hl; subst hG; exact fun _ => vX6_isWar  hQ h)
theorem dX6_wars_0 : decode cX6_wars 0 = .ok (.iload_n 1, 1) := by decide +kernel
theorem dX6_wars_1 : decode cX6_wars 1 = .ok (.invokestatic 91, 3) := by decide +kernel
theorem dX6_wars_4 : decode cX6_wars 4 = .ok (.ifCond .ne 10, 3) := by decide +kernel
theorem dX6_wars_7 : decode cX6_wars 7 = .ok (.aload_n 0, 1) := by decide +kernel
theorem dX6_wars_8 : decode cX6_wars 8 = .ok (.ldc 60, 2) := by decide +kernel
theorem dX6_wars_10 : decode cX6_wars 10 = .ok (.invokevirtual 66, 3) := by decide +kernel
theorem dX6_wars_13 : decode cX6_wars 13 = .ok (.ireturn, 1) := by decide +kernel
theorem dX6_wars_14 : decode cX6_wars 14 = .ok (.iconst 0, 1) := by decide +kernel
theorem dX6_wars_15 : decode cX6_wars 15 = .ok (.istore_n 2, 1) := by decide +kernel
theorem dX6_wars_16 : decode cX6_wars 16 = .ok (.iconst 0, 1) := by decide +kernel
theorem dX6_wars_17 : decode cX6_wars 17 = .ok (.istore_n 3, 1) := by decide +kernel
theorem dX6_wars_18 : decode cX6_wars 18 = .ok (.iload_n 3, 1) := by decide +kernel
theorem dX6_wars_19 : decode cX6_wars 19 = .ok (.bipush 6, 2) := by decide +kernel
theorem dX6_wars_21 : decode cX6_wars 21 = .ok (.if_icmp .ge 33, 3) := by decide +kernel
theorem dX6_wars_24 : decode cX6_wars 24 = .ok (.iload_n 2, 1) := by decide +kernel
theorem dX6_wars_25 : decode cX6_wars 25 = .ok (.iload_n 3, 1) := by decide +kernel
theorem dX6_wars_26 : decode cX6_wars 26 = .ok (.iload_n 1, 1) := by decide +kernel
theorem dX6_wars_27 : decode cX6_wars 27 = .ok (.if_icmp .eq 18, 3) := by decide +kernel
theorem dX6_wars_30 : decode cX6_wars 30 = .ok (.aload_n 0, 1) := by decide +kernel
theorem dX6_wars_31 : decode cX6_wars 31 = .ok (.iload_n 1, 1) := by decide +kernel
theorem dX6_wars_32 : decode cX6_wars 32 = .ok (.iload_n 3, 1) := by decide +kernel
theorem dX6_wars_33 : decode cX6_wars 33 = .ok (.invokevirtual 132, 3) := by decide +kernel
theorem dX6_wars_36 : decode cX6_wars 36 = .ok (.ifCond .eq 9, 3) := by decide +kernel
theorem dX6_wars_39 : decode cX6_wars 39 = .ok (.iconst 1, 1) := by decide +kernel
theorem dX6_wars_40 : decode cX6_wars 40 = .ok (.iload_n 3, 1) := by decide +kernel
theorem dX6_wars_41 : decode cX6_wars 41 = .ok (.ishl, 1) := by decide +kernel
theorem dX6_wars_42 : decode cX6_wars 42 = .ok (.goto 4, 3) := by decide +kernel
theorem dX6_wars_45 : decode cX6_wars 45 = .ok (.iconst 0, 1) := by decide +kernel
theorem dX6_wars_46 : decode cX6_wars 46 = .ok (.ior, 1) := by decide +kernel
theorem dX6_wars_47 : decode cX6_wars 47 = .ok (.istore_n 2, 1) := by decide +kernel
theorem dX6_wars_48 : decode cX6_wars 48 = .ok (.iinc 3 1, 3) := by decide +kernel
theorem dX6_wars_51 : decode cX6_wars 51 = .ok (.goto (-33), 3) := by decide +kernel
theorem dX6_wars_54 : decode cX6_wars 54 = .ok (.iload_n 2, 1) := by decide +kernel
theorem dX6_wars_55 : decode cX6_wars 55 = .ok (.ireturn, 1) := by decide +kernel
def bX6_wars_46 (fu : Nat) (k18 : mt_St → Int32 → Int32 → Int32 → Option (Int32 × mt_St)) (σ : mt_St) (x1 : Int32) (x3 : Int32) (y0 : Int32) (y1 : Int32) : Option (Int32 × mt_St) :=
  k18 σ x1 (y1 ||| y0) (x3 + 1)
set_option maxHeartbeats 4000000 in
set_option maxRecDepth 20000 in
theorem vX6_wars_46 {K : mt_C} {fu : Nat} {r : Int32} {σf : mt_St} (hQ : mt_R K (some .int) (some (.int r)) σf) {k18 : mt_St → Int32 → Int32 → Int32 → Option (Int32 × mt_St)} (hk18 : ∀ (s0 : mt_St) (x1 : Int32) (x2 : Int32) (x3 : Int32), mt_V K cX6_wars RX6 4 4 s0 18 [(0, .ref (mt_adr (kG K) 56)), (1, .int x1), (2, .int x2), (3, .int x3)] [] (k18 s0 x1 x2 x3 = some (r, σf))) : ∀ (σ : mt_St) (x1 : Int32) (x3 : Int32) (y0 : Int32) (y1 : Int32), mt_V K cX6_wars RX6 4 4 σ 46 [(0, .ref (mt_adr (kG K) 56)), (1, .int x1), (3, .int x3)] [.int y0, .int y1] (bX6_wars_46 fu k18 σ x1 x3 y0 y1 = some (r, σf)) := by
  intro σ x1 x3 y0 y1
  unfold bX6_wars_46
  refine mv_ior dX6_wars_46 ?_
  refine mv_istore_n (lv' := [(0, .ref (mt_adr (kG K) 56)), (1, .int x1), (2, .int (y1 ||| y0)), (3, .int x3)]) [1, 2, 0, 3] dX6_wars_47 rfl (by decide) rfl ?_
  refine mv_iinc (k0 := 3) (v := x3 + 1) (lv' := [(0, .ref (mt_adr (kG K) 56)), (1, .int x1), (2, .int (y1 ||| y0)), (3, .int (x3 + 1))]) [1, 2, 3, 0] dX6_wars_48 rfl (mt_inc ic_1) (by decide) rfl ?_
  refine mv_goto 18 dX6_wars_51 (by decide) ?_
  exact hk18 σ x1 (y1 ||| y0) (x3 + 1)
def bX6_wars_45 (fu : Nat) (k18 : mt_St → Int32 → Int32 → Int32 → Option (Int32 × mt_St)) (σ : mt_St) (x1 : Int32) (x3 : Int32) (y0 : Int32) : Option (Int32 × mt_St) :=
  bX6_wars_46 fu k18 σ x1 x3 (0 : Int32) y0
set_option maxHeartbeats 4000000 in
set_option maxRecDepth 20000 in
theorem vX6_wars_45 {K : mt_C} {fu : Nat} {r : Int32} {σf : mt_St} (hQ : mt_R K (some .int) (some (.int r)) σf) {k18 : mt_St → Int32 → Int32 → Int32 → Option (Int32 × mt_St)} (hk18 : ∀ (s0 : mt_St) (x1 : Int32) (x2 : Int32) (x3 : Int32), mt_V K cX6_wars RX6 4 4 s0 18 [(0, .ref (mt_adr (kG K) 56)), (1, .int x1), (2, .int x2), (3, .int x3)] [] (k18 s0 x1 x2 x3 = some (r, σf))) : ∀ (σ : mt_St) (x1 : Int32) (x3 : Int32) (y0 : Int32), mt_V K cX6_wars RX6 4 4 σ 45 [(0, .ref (mt_adr (kG K) 56)), (1, .int x1), (3, .int x3)] [.int y0] (bX6_wars_45 fu k18 σ x1 x3 y0 = some (r, σf)) := by
  intro σ x1 x3 y0
  unfold bX6_wars_45
  refine mv_iconst (v := 0) dX6_wars_45 ic_0 ?_
  exact vX6_wars_46 hQ hk18 σ x1 x3 (0 : Int32) y0
def bX6_wars_18 (fu : Nat) : Nat → mt_St → Int32 → Int32 → Int32 → Option (Int32 × mt_St)
  | 0, _, _, _, _ => none
  | n + 1, σ, x1, x2, x3 =>
    if (6 : Int32) ≤ x3 then
      some (x2, σ)
    else
      if x3 = x1 then
        bX6_wars_45 fu (fun s0 x1 x2 x3 => bX6_wars_18 fu n s0 x1 x2 x3) σ x1 x3 x2
      else
        mt_ask (fX6_isWar fu σ x1 x3) fun r1 =>
        if r1 = 0 then
          bX6_wars_45 fu (fun s0 x1 x2 x3 => bX6_wars_18 fu n s0 x1 x2 x3) σ x1 x3 x2
        else
          bX6_wars_46 fu (fun s0 x1 x2 x3 => bX6_wars_18 fu n s0 x1 x2 x3) σ x1 x3 ((1 : Int32) <<< (x3 &&& 31)) x2
set_option maxHeartbeats 4000000 in
set_option maxRecDepth 20000 in
theorem vX6_wars_18 {K : mt_C} {fu : Nat} {r : Int32} {σf : mt_St} (hQ : mt_R K (some .int) (some (.int r)) σf) : ∀ (n : Nat) (σ : mt_St) (x1 : Int32) (x2 : Int32) (x3 : Int32), mt_V K cX6_wars RX6 4 4 σ 18 [(0, .ref (mt_adr (kG K) 56)), (1, .int x1), (2, .int x2), (3, .int x3)] [] (bX6_wars_18 fu n σ x1 x2 x3 = some (r, σf)) := by
  intro n
  induction n with
  | zero => intro σ x1 x2 x3; intro hP; unfold bX6_wars_18 at hP; cases hP
  | succ n ih =>
    intro σ x1 x2 x3
    unfold bX6_wars_18
    refine mv_iload_n 3 dX6_wars_18 rfl rfl ?_
    refine mv_bipush (v := 6) dX6_wars_19 bp_6 ?_
    refine mv_icmp_ge 54 dX6_wars_21 (by decide) ?_ ?_
    · refine mv_iload_n 2 dX6_wars_54 rfl rfl ?_
      exact mv_iret hQ dX6_wars_55
    · refine mv_iload_n 2 dX6_wars_24 rfl rfl ?_
      refine mv_iload_n 3 dX6_wars_25 rfl rfl ?_
      refine mv_iload_n 1 dX6_wars_26 rfl rfl ?_
      refine mv_icmp_eq 45 dX6_wars_27 (by decide) ?_ ?_
      · refine mv_sub (lv' := [(0, .ref (mt_adr (kG K) 56)), (1, .int x1), (3, .int x3)]) [0, 1, 3] rfl ?_
        exact vX6_wars_45 hQ (fun s0 x1 x2 x3 => ih s0 x1 x2 x3) σ x1 x3 x2
      · refine mv_aload_n 0 dX6_wars_30 rfl rfl ?_
        refine mv_iload_n 1 dX6_wars_31 rfl rfl ?_
        refine mv_iload_n 3 dX6_wars_32 rfl rfl ?_
        refine mv_cVri (As := [.int x1, .int x3]) (st := [.int x2]) cal_X6_isWar ins_X6_isWar ml_X6_132 rfl (by decide) rfl rfl (by decide) rfl (Nat.le_of_ble_eq_true rfl) dX6_wars_33 (fun r h => co_X6_isWar h) (fun r1 => ?_)
        refine mv_if_eq 45 dX6_wars_36 (by decide) ?_ ?_
        · refine mv_sub (lv' := [(0, .ref (mt_adr (kG K) 56)), (1, .int x1), (3, .int x3)]) [0, 1, 3] rfl ?_
          exact vX6_wars_45 hQ (fun s0 x1 x2 x3 => ih s0 x1 x2 x3) σ x1 x3 x2
        · refine mv_iconst (v := 1) dX6_wars_39 ic_1 ?_
          refine mv_iload_n 3 dX6_wars_40 rfl rfl ?_
          refine mv_ishl dX6_wars_41 ?_
          refine mv_goto 46 dX6_wars_42 (by decide) ?_
          refine mv_sub (lv' := [(0, .ref (mt_adr (kG K) 56)), (1, .int x1), (3, .int x3)]) [0, 1, 3] rfl ?_
          exact vX6_wars_46 hQ (fun s0 x1 x2 x3 => ih s0 x1 x2 x3) σ x1 x3 ((1 : Int32) <<< (x3 &&& 31)) x2
def fX6_wars (fu : Nat) (σ : mt_St) (a1 : Int32) : Option (Int32 × mt_St) :=
  mt_ask (fX6_isPower fu a1) fun r1 =>
  if r1 = 0 then
    mt_call (fX6_finding fu σ (-1000001 : Int32)) fun r2 s3 =>
    some (r2, s3)
  else
    bX6_wars_18 fu fu σ a1 (0 : Int32) (0 : Int32)
set_option maxHeartbeats 4000000 in
set_option maxRecDepth 20000 in
theorem vX6_wars {K : mt_C} {fu : Nat} {σ : mt_St} {a1 : Int32} {r : Int32} {σf : mt_St} (hQ : mt_R K (some .int) (some (.int r)) σf) : mt_V K cX6_wars RX6 4 4 σ 0 [(0, .ref (mt_adr (kG K) 56)), (1, .int a1)] [] (fX6_wars fu σ a1 = some (r, σf)) := by
  unfold fX6_wars
  refine mv_iload_n 1 dX6_wars_0 rfl rfl ?_
  refine mv_cSri (As := [.int a1]) (st := []) cal_X6_isPower sta_X6_isPower ml_X6_91 rfl (by decide) rfl (Nat.le_of_ble_eq_true rfl) dX6_wars_1 (fun r h => co_X6_isPower h) (fun r1 => ?_)
  refine mv_if_ne 14 dX6_wars_4 (by decide) ?_ ?_
  · refine mv_iconst (v := 0) dX6_wars_14 ic_0 ?_
    refine mv_istore_n (lv' := [(0, .ref (mt_adr (kG K) 56)), (1, .int a1), (2, .int (0 : Int32))]) [1, 2, 0] dX6_wars_15 rfl (by decide) rfl ?_
    refine mv_iconst (v := 0) dX6_wars_16 ic_0 ?_
    refine mv_istore_n (lv' := [(0, .ref (mt_adr (kG K) 56)), (1, .int a1), (2, .int (0 : Int32)), (3, .int (0 : Int32))]) [1, 2, 3, 0] dX6_wars_17 rfl (by decide) rfl ?_
    exact vX6_wars_18 hQ fu σ a1 (0 : Int32) (0 : Int32)
  · refine mv_aload_n 0 dX6_wars_7 rfl rfl ?_
    refine mv_ldc kc_X6_60 dX6_wars_8 ?_
    refine mv_cVwi (As := [.int (-1000001 : Int32)]) (st := []) cal_X6_finding ins_X6_finding ml_X6_66 rfl (by decide) rfl rfl (by decide) rfl (Nat.le_of_ble_eq_true rfl) dX6_wars_10 (fun r s h => co_X6_finding h) (fun r2 s3 => ?_)
    exact mv_iret hQ dX6_wars_13
theorem co_X6_wars {l : Launch} {G : mt_G} {fu : Nat} {σ : mt_St} {a1 : Int32} {r : Int32} {σf : mt_St}  (h : fX6_wars fu σ a1 = some (r, σf)) : mt_Con l G yX6_wars cX6_wars 4 (some .int) 4 [.ref (mt_adr G 56), .int a1] σ (some (.int r)) σf :=
  mt_con (by decide) (Nat.le_of_ble_eq_true rfl) (fun K hl hG hQ => by subst hl; subst hG; exact fun _ => vX6_wars  hQ h)
theorem dX6_pairsAtWar_0 : decode cX6_pairsAtWar 0 = .ok (.iconst 0, 1) := by decide +kernel
theorem dX6_pairsAtWar_1 : decode cX6_pairsAtWar 1 = .ok (.istore_n 1, 1) := by decide +kernel
theorem dX6_pairsAtWar_2 : decode cX6_pairsAtWar 2 = .ok (.iconst 0, 1) := by decide +kernel
theorem dX6_pairsAtWar_3 : decode cX6_pairsAtWar 3 = .ok (.istore_n 2, 1) := by decide +kernel
theorem dX6_pairsAtWar_4 : decode cX6_pairsAtWar 4 = .ok (.iload_n 2, 1) := by decide +kernel
theorem dX6_pairsAtWar_5 : decode cX6_pairsAtWar 5 = .ok (.bipush 6, 2) := by decide +kernel
theorem dX6_pairsAtWar_7 : decode cX6_pairsAtWar 7 = .ok (.if_icmp .ge 42, 3) := by decide +kernel
theorem dX6_pairsAtWar_10 : decode cX6_pairsAtWar 10 = .ok (.iload_n 2, 1) := by decide +kernel
theorem dX6_pairsAtWar_11 : decode cX6_pairsAtWar 11 = .ok (.iconst 1, 1) := by decide +kernel
theorem dX6_pairsAtWar_12 : decode cX6_pairsAtWar 12 = .ok (.iadd, 1) := by decide +kernel
theorem dX6_pairsAtWar_13 : decode cX6_pairsAtWar 13 = .ok (.istore_n 3, 1) := by decide +kernel
theorem dX6_pairsAtWar_14 : decode cX6_pairsAtWar 14 = .ok (.iload_n 3, 1) := by decide +kernel
theorem dX6_pairsAtWar_15 : decode cX6_pairsAtWar 15 = .ok (.bipush 6, 2) := by decide +kernel
theorem dX6_pairsAtWar_17 : decode cX6_pairsAtWar 17 = .ok (.if_icmp .ge 26, 3) := by decide +kernel
theorem dX6_pairsAtWar_20 : decode cX6_pairsAtWar 20 = .ok (.iload_n 1, 1) := by decide +kernel
theorem dX6_pairsAtWar_21 : decode cX6_pairsAtWar 21 = .ok (.aload_n 0, 1) := by decide +kernel
theorem dX6_pairsAtWar_22 : decode cX6_pairsAtWar 22 = .ok (.iload_n 2, 1) := by decide +kernel
theorem dX6_pairsAtWar_23 : decode cX6_pairsAtWar 23 = .ok (.iload_n 3, 1) := by decide +kernel
theorem dX6_pairsAtWar_24 : decode cX6_pairsAtWar 24 = .ok (.invokevirtual 132, 3) := by decide +kernel
theorem dX6_pairsAtWar_27 : decode cX6_pairsAtWar 27 = .ok (.ifCond .eq 7, 3) := by decide +kernel
theorem dX6_pairsAtWar_30 : decode cX6_pairsAtWar 30 = .ok (.iconst 1, 1) := by decide +kernel
theorem dX6_pairsAtWar_31 : decode cX6_pairsAtWar 31 = .ok (.goto 4, 3) := by decide +kernel
theorem dX6_pairsAtWar_34 : decode cX6_pairsAtWar 34 = .ok (.iconst 0, 1) := by decide +kernel
theorem dX6_pairsAtWar_35 : decode cX6_pairsAtWar 35 = .ok (.iadd, 1) := by decide +kernel
theorem dX6_pairsAtWar_36 : decode cX6_pairsAtWar 36 = .ok (.istore_n 1, 1) := by decide +kernel
theorem dX6_pairsAtWar_37 : decode cX6_pairsAtWar 37 = .ok (.iinc 3 1, 3) := by decide +kernel
theorem dX6_pairsAtWar_40 : decode cX6_pairsAtWar 40 = .ok (.goto (-26), 3) := by decide +kernel
theorem dX6_pairsAtWar_43 : decode cX6_pairsAtWar 43 = .ok (.iinc 2 1, 3) := by decide +kernel
theorem dX6_pairsAtWar_46 : decode cX6_pairsAtWar 46 = .ok (.goto (-42), 3) := by decide +kernel
theorem dX6_pairsAtWar_49 : decode cX6_pairsAtWar 49 = .ok (.iload_n 1, 1) := by decide +kernel
theorem dX6_pairsAtWar_50 : decode cX6_pairsAtWar 50 = .ok (.ireturn, 1) := by decide +kernel
def bX6_pairsAtWar_35 (fu : Nat) (σ : mt_St) (k4 : Int32 → Int32 → Option Int32) (k14 : Int32 → Int32 → Int32 → Option Int32) (x2 : Int32) (x3 : Int32) (y0 : Int32) (y1 : Int32) : Option Int32 :=
  k14 (y1 + y0) x2 (x3 + 1)
set_option maxHeartbeats 4000000 in
set_option maxRecDepth 20000 in
theorem vX6_pairsAtWar_35 {K : mt_C} {fu : Nat} {σ : mt_St} {r : Int32} (hQ : mt_R K (some .int) (some (.int r)) σ) {k4 : Int32 → Int32 → Option Int32} {k14 : Int32 → Int32 → Int32 → Option Int32} (hk4 : ∀ (x1 : Int32) (x2 : Int32), mt_V K cX6_pairsAtWar RX6 4 4 σ 4 [(0, .ref (mt_adr (kG K) 56)), (1, .int x1), (2, .int x2)] [] (k4 x1 x2 = some r)) (hk14 : ∀ (x1 : Int32) (x2 : Int32) (x3 : Int32), mt_V K cX6_pairsAtWar RX6 4 4 σ 14 [(0, .ref (mt_adr (kG K) 56)), (1, .int x1), (2, .int x2), (3, .int x3)] [] (k14 x1 x2 x3 = some r)) : ∀ (x2 : Int32) (x3 : Int32) (y0 : Int32) (y1 : Int32), mt_V K cX6_pairsAtWar RX6 4 4 σ 35 [(0, .ref (mt_adr (kG K) 56)), (2, .int x2), (3, .int x3)] [.int y0, .int y1] (bX6_pairsAtWar_35 fu σ k4 k14 x2 x3 y0 y1 = some r) := by
  intro x2 x3 y0 y1
  unfold bX6_pairsAtWar_35
  refine mv_iadd dX6_pairsAtWar_35 ?_
  refine mv_istore_n (lv' := [(0, .ref (mt_adr (kG K) 56)), (1, .int (y1 + y0)), (2, .int x2), (3, .int x3)]) [1, 0, 2, 3] dX6_pairsAtWar_36 rfl (by decide) rfl ?_
  refine mv_iinc (k0 := 3) (v := x3 + 1) (lv' := [(0, .ref (mt_adr (kG K) 56)), (1, .int (y1 + y0)), (2, .int x2), (3, .int (x3 + 1))]) [1, 2, 3, 0] dX6_pairsAtWar_37 rfl (mt_inc ic_1) (by decide) rfl ?_
  refine mv_goto 14 dX6_pairsAtWar_40 (by decide) ?_
  exact hk14 (y1 + y0) x2 (x3 + 1)
def bX6_pairsAtWar_14 (fu : Nat) (σ : mt_St) (k4 : Int32 → Int32 → Option Int32) : Nat → Int32 → Int32 → Int32 → Option Int32
  | 0, _, _, _ => none
  | n + 1, x1, x2, x3 =>
    if (6 : Int32) ≤ x3 then
      k4 x1 (x2 + 1)
    else
      mt_ask (fX6_isWar fu σ x2 x3) fun r1 =>
      if r1 = 0 then
        bX6_pairsAtWar_35 fu σ k4 (fun x1 x2 x3 => bX6_pairsAtWar_14 fu σ k4 n x1 x2 x3) x2 x3 (0 : Int32) x1
      else
        bX6_pairsAtWar_35 fu σ k4 (fun x1 x2 x3 => bX6_pairsAtWar_14 fu σ k4 n x1 x2 x3) x2 x3 (1 : Int32) x1
set_option maxHeartbeats 4000000 in
set_option maxRecDepth 20000 in
theorem vX6_pairsAtWar_14 {K : mt_C} {fu : Nat} {σ : mt_St} {r : Int32} (hQ : mt_R K (some .int) (some (.int r)) σ) {k4 : Int32 → Int32 → Option Int32} (hk4 : ∀ (x1 : Int32) (x2 : Int32), mt_V K cX6_pairsAtWar RX6 4 4 σ 4 [(0, .ref (mt_adr (kG K) 56)), (1, .int x1), (2, .int x2)] [] (k4 x1 x2 = some r)) : ∀ (n : Nat) (x1 : Int32) (x2 : Int32) (x3 : Int32), mt_V K cX6_pairsAtWar RX6 4 4 σ 14 [(0, .ref (mt_adr (kG K) 56)), (1, .int x1), (2, .int x2), (3, .int x3)] [] (bX6_pairsAtWar_14 fu σ k4 n x1 x2 x3 = some r) := by
  intro n
  induction n with
  | zero => intro x1 x2 x3; intro hP; unfold bX6_pairsAtWar_14 at hP; cases hP
  | succ n ih =>
    intro x1 x2 x3
    unfold bX6_pairsAtWar_14
    refine mv_iload_n 3 dX6_pairsAtWar_14 rfl rfl ?_
    refine mv_bipush (v := 6) dX6_pairsAtWar_15 bp_6 ?_
    refine mv_icmp_ge 43 dX6_pairsAtWar_17 (by decide) ?_ ?_
    · refine mv_iinc (k0 := 2) (v := x2 + 1) (lv' := [(0, .ref (mt_adr (kG K) 56)), (1, .int x1), (2, .int (x2 + 1))]) [1, 2, 0] dX6_pairsAtWar_43 rfl (mt_inc ic_1) (by decide) rfl ?_
      refine mv_goto 4 dX6_pairsAtWar_46 (by decide) ?_
      exact hk4 x1 (x2 + 1)
    · refine mv_iload_n 1 dX6_pairsAtWar_20 rfl rfl ?_
      refine mv_aload_n 0 dX6_pairsAtWar_21 rfl rfl ?_
      refine mv_iload_n 2 dX6_pairsAtWar_22 rfl rfl ?_
      refine mv_iload_n 3 dX6_pairsAtWar_23 rfl rfl ?_
      refine mv_cVri (As := [.int x2, .int x3]) (st := [.int x1]) cal_X6_isWar ins_X6_isWar ml_X6_132 rfl (by decide) rfl rfl (by decide) rfl (Nat.le_of_ble_eq_true rfl) dX6_pairsAtWar_24 (fun r h => co_X6_isWar h) (fun r1 => ?_)
      refine mv_if_eq 34 dX6_pairsAtWar_27 (by decide) ?_ ?_
      · refine mv_iconst (v := 0) dX6_pairsAtWar_34 ic_0 ?_
        refine mv_sub (lv' := [(0, .ref (mt_adr (kG K) 56)), (2, .int x2), (3, .int x3)]) [0, 2, 3] rfl ?_
        exact vX6_pairsAtWar_35 hQ hk4 (fun x1 x2 x3 => ih x1 x2 x3) x2 x3 (0 : Int32) x1
      · refine mv_iconst (v := 1) dX6_pairsAtWar_30 ic_1 ?_
        refine mv_goto 35 dX6_pairsAtWar_31 (by decide) ?_
        refine mv_sub (lv' := [(0, .ref (mt_adr (kG K) 56)), (2, .int x2), (3, .int x3)]) [0, 2, 3] rfl ?_
        exact vX6_pairsAtWar_35 hQ hk4 (fun x1 x2 x3 => ih x1 x2 x3) x2 x3 (1 : Int32) x1
def bX6_pairsAtWar_4 (fu : Nat) (σ : mt_St) : Nat → Int32 → Int32 → Option Int32
  | 0, _, _ => none
  | n + 1, x1, x2 =>
    if (6 : Int32) ≤ x2 then
      some x1
    else
      bX6_pairsAtWar_14 fu σ (fun x1 x2 => bX6_pairsAtWar_4 fu σ n x1 x2) fu x1 x2 (x2 + (1 : Int32))
set_option maxHeartbeats 4000000 in
set_option maxRecDepth 20000 in
theorem vX6_pairsAtWar_4 {K : mt_C} {fu : Nat} {σ : mt_St} {r : Int32} (hQ : mt_R K (some .int) (some (.int r)) σ) : ∀ (n : Nat) (x1 : Int32) (x2 : Int32), mt_V K cX6_pairsAtWar RX6 4 4 σ 4 [(0, .ref (mt_adr (kG K) 56)), (1, .int x1), (2, .int x2)] [] (bX6_pairsAtWar_4 fu σ n x1 x2 = some r) := by
  intro n
  induction n with
  | zero => intro x1 x2; intro hP; unfold bX6_pairsAtWar_4 at hP; cases hP
  | succ n ih =>
    intro x1 x2
    unfold bX6_pairsAtWar_4
    refine mv_iload_n 2 dX6_pairsAtWar_4 rfl rfl ?_
    refine mv_bipush (v := 6) dX6_pairsAtWar_5 bp_6 ?_
    refine mv_icmp_ge 49 dX6_pairsAtWar_7 (by decide) ?_ ?_
    · refine mv_iload_n 1 dX6_pairsAtWar_49 rfl rfl ?_
      exact mv_iretr hQ dX6_pairsAtWar_50
    · refine mv_iload_n 2 dX6_pairsAtWar_10 rfl rfl ?_
      refine mv_iconst (v := 1) dX6_pairsAtWar_11 ic_1 ?_
      refine mv_iadd dX6_pairsAtWar_12 ?_
      refine mv_istore_n (lv' := [(0, .ref (mt_adr (kG K) 56)), (1, .int x1), (2, .int x2), (3, .int (x2 + (1 : Int32)))]) [1, 2, 3, 0] dX6_pairsAtWar_13 rfl (by decide) rfl ?_
      exact vX6_pairsAtWar_14 hQ (fun x1 x2 => ih x1 x2) fu x1 x2 (x2 + (1 : Int32))
def fX6_pairsAtWar (fu : Nat) (σ : mt_St) : Option Int32 :=
  bX6_pairsAtWar_4 fu σ fu (0 : Int32) (0 : Int32)
set_option maxHeartbeats 4000000 in
set_option maxRecDepth 20000 in
theorem vX6_pairsAtWar {K : mt_C} {fu : Nat} {σ : mt_St} {r : Int32} (hQ : mt_R K (some .int) (some (.int r)) σ) : mt_V K cX6_pairsAtWar RX6 4 4 σ 0 [(0, .ref (mt_adr (kG K) 56))] [] (fX6_pairsAtWar fu σ = some r) := by
  unfold fX6_pairsAtWar
  refine mv_iconst (v := 0) dX6_pairsAtWar_0 ic_0 ?_
  refine mv_istore_n (lv' := [(0, .ref (mt_adr (kG K) 56)), (1, .int (0 : Int32))]) [1, 0] dX6_pairsAtWar_1 rfl (by decide) rfl ?_
  refine mv_iconst (v := 0) dX6_pairsAtWar_2 ic_0 ?_
  refine mv_istore_n (lv' := [(0, .ref (mt_adr (kG K) 56)), (1, .int (0 : Int32)), (2, .int (0 : Int32))]) [1, 2, 0] dX6_pairsAtWar_3 rfl (by decide) rfl ?_
  exact vX6_pairsAtWar_4 hQ fu (0 : Int32) (0 : Int32)
theorem co_X6_pairsAtWar {l : Launch} {G : mt_G} {fu : Nat} {σ : mt_St} {r : Int32}  (h : fX6_pairsAtWar fu σ = some r) : mt_Con l G yX6_pairsAtWar cX6_pairsAtWar 4 (some .int) 4 [.ref (mt_adr G 56)] σ (some (.int r)) σ :=
  mt_con (by decide) (Nat.le_of_ble_eq_true rfl) (fun K hl hG hQ => by subst hl; subst hG; exact fun _ => vX6_pairsAtWar  hQ h)
theorem dX6_more_0 : decode cX6_more 0 = .ok (.aload_n 0, 1) := by decide +kernel
theorem dX6_more_1 : decode cX6_more 1 = .ok (.getfield 9, 3) := by decide +kernel
theorem dX6_more_4 : decode cX6_more 4 = .ok (.iload_n 1, 1) := by decide +kernel
theorem dX6_more_5 : decode cX6_more 5 = .ok (.iload_n 3, 1) := by decide +kernel
theorem dX6_more_6 : decode cX6_more 6 = .ok (.aload_n 0, 1) := by decide +kernel
theorem dX6_more_7 : decode cX6_more 7 = .ok (.getfield 9, 3) := by decide +kernel
theorem dX6_more_10 : decode cX6_more 10 = .ok (.iload_n 1, 1) := by decide +kernel
theorem dX6_more_11 : decode cX6_more 11 = .ok (.iaload, 1) := by decide +kernel
theorem dX6_more_12 : decode cX6_more 12 = .ok (.iload_n 2, 1) := by decide +kernel
theorem dX6_more_13 : decode cX6_more 13 = .ok (.iadd, 1) := by decide +kernel
theorem dX6_more_14 : decode cX6_more 14 = .ok (.invokestatic 136, 3) := by decide +kernel
theorem dX6_more_17 : decode cX6_more 17 = .ok (.iastore, 1) := by decide +kernel
theorem dX6_more_18 : decode cX6_more 18 = .ok (.return_, 1) := by decide +kernel
def fX6_more (fu : Nat) (σ : mt_St) (a1 : Int32) (a2 : Int32) (a3 : Int32) : Option (Unit × mt_St) :=
  mt_chk (mt_in a1 86) <|
  mt_chk (mt_in a1 86) <|
  mt_bnd (mt_up σ 57 (Int32.toNatClampNeg a1) (mt_min a3 ((σ 57 (Int32.toNatClampNeg a1)) + a2))) fun s2 =>
  some ((), s2)
set_option maxHeartbeats 4000000 in
set_option maxRecDepth 20000 in
theorem vX6_more {K : mt_C} {fu : Nat} {σ : mt_St} {a1 : Int32} {a2 : Int32} {a3 : Int32} {r : Unit} {σf : mt_St} (hQ : mt_R K none none σf) : mt_V K cX6_more RX6 4 1 σ 0 [(0, .ref (mt_adr (kG K) 56)), (1, .int a1), (2, .int a2), (3, .int a3)] [] (fX6_more fu σ a1 a2 a3 = some (r, σf)) := by
  unfold fX6_more
  refine mv_aload_n 0 dX6_more_0 rfl rfl ?_
  refine mg_X6_0 fl_X6_9 dX6_more_1 ?_
  refine mv_iload_n 1 dX6_more_4 rfl rfl ?_
  refine mv_iload_n 3 dX6_more_5 rfl rfl ?_
  refine mv_aload_n 0 dX6_more_6 rfl rfl ?_
  refine mg_X6_0 fl_X6_9 dX6_more_7 ?_
  refine mv_iload_n 1 dX6_more_10 rfl rfl ?_
  refine mv_iald 86 rfl rfl dX6_more_11 ?_
  refine mv_iload_n 2 dX6_more_12 rfl rfl ?_
  refine mv_iadd dX6_more_13 ?_
  refine mv_mmin mm_X6_136 (by decide) (Nat.le_of_ble_eq_true rfl) dX6_more_14 ?_
  refine mv_iast 86 rfl rfl dX6_more_17 (fun s2 => ?_)
  exact mv_vret hQ dX6_more_18
theorem co_X6_more {l : Launch} {G : mt_G} {fu : Nat} {σ : mt_St} {a1 : Int32} {a2 : Int32} {a3 : Int32} {r : Unit} {σf : mt_St}  (h : fX6_more fu σ a1 a2 a3 = some (r, σf)) : mt_Con l G yX6_more cX6_more 4 none 1 [.ref (mt_adr G 56), .int a1, .int a2, .int a3] σ none σf :=
  mt_con (by decide) (Nat.le_of_ble_eq_true rfl) (fun K hl hG hQ => by subst hl; subst hG; exact fun _ => vX6_more  hQ h)
theorem dX6_fadesNow_0 : decode cX6_fadesNow 0 = .ok (.aload_n 0, 1) := by decide +kernel
theorem dX6_fadesNow_1 : decode cX6_fadesNow 1 = .ok (.iload_n 1, 1) := by decide +kernel
theorem dX6_fadesNow_2 : decode cX6_fadesNow 2 = .ok (.iconst 3, 1) := by decide +kernel
theorem dX6_fadesNow_3 : decode cX6_fadesNow 3 = .ok (.invokevirtual 99, 3) := by decide +kernel
theorem dX6_fadesNow_6 : decode cX6_fadesNow 6 = .ok (.istore_n 2, 1) := by decide +kernel
theorem dX6_fadesNow_7 : decode cX6_fadesNow 7 = .ok (.bipush 11, 2) := by decide +kernel
theorem dX6_fadesNow_9 : decode cX6_fadesNow 9 = .ok (.istore_n 3, 1) := by decide +kernel
theorem dX6_fadesNow_10 : decode cX6_fadesNow 10 = .ok (.iload_n 3, 1) := by decide +kernel
theorem dX6_fadesNow_11 : decode cX6_fadesNow 11 = .ok (.ifCond .lt 36, 3) := by decide +kernel
theorem dX6_fadesNow_14 : decode cX6_fadesNow 14 = .ok (.iload_n 2, 1) := by decide +kernel
theorem dX6_fadesNow_15 : decode cX6_fadesNow 15 = .ok (.iload_n 3, 1) := by decide +kernel
theorem dX6_fadesNow_16 : decode cX6_fadesNow 16 = .ok (.ishr, 1) := by decide +kernel
theorem dX6_fadesNow_17 : decode cX6_fadesNow 17 = .ok (.iconst 1, 1) := by decide +kernel
theorem dX6_fadesNow_18 : decode cX6_fadesNow 18 = .ok (.iand, 1) := by decide +kernel
theorem dX6_fadesNow_19 : decode cX6_fadesNow 19 = .ok (.iconst 1, 1) := by decide +kernel
theorem dX6_fadesNow_20 : decode cX6_fadesNow 20 = .ok (.if_icmp .ne 21, 3) := by decide +kernel
theorem dX6_fadesNow_23 : decode cX6_fadesNow 23 = .ok (.aload_n 0, 1) := by decide +kernel
theorem dX6_fadesNow_24 : decode cX6_fadesNow 24 = .ok (.getfield 9, 3) := by decide +kernel
theorem dX6_fadesNow_27 : decode cX6_fadesNow 27 = .ok (.iload_n 1, 1) := by decide +kernel
theorem dX6_fadesNow_28 : decode cX6_fadesNow 28 = .ok (.iconst 3, 1) := by decide +kernel
theorem dX6_fadesNow_29 : decode cX6_fadesNow 29 = .ok (.invokestatic 85, 3) := by decide +kernel
theorem dX6_fadesNow_32 : decode cX6_fadesNow 32 = .ok (.iload_n 2, 1) := by decide +kernel
theorem dX6_fadesNow_33 : decode cX6_fadesNow 33 = .ok (.iconst 1, 1) := by decide +kernel
theorem dX6_fadesNow_34 : decode cX6_fadesNow 34 = .ok (.iload_n 3, 1) := by decide +kernel
theorem dX6_fadesNow_35 : decode cX6_fadesNow 35 = .ok (.ishl, 1) := by decide +kernel
theorem dX6_fadesNow_36 : decode cX6_fadesNow 36 = .ok (.iconst (-1), 1) := by decide +kernel
theorem dX6_fadesNow_37 : decode cX6_fadesNow 37 = .ok (.ixor, 1) := by decide +kernel
theorem dX6_fadesNow_38 : decode cX6_fadesNow 38 = .ok (.iand, 1) := by decide +kernel
theorem dX6_fadesNow_39 : decode cX6_fadesNow 39 = .ok (.iastore, 1) := by decide +kernel
theorem dX6_fadesNow_40 : decode cX6_fadesNow 40 = .ok (.return_, 1) := by decide +kernel
theorem dX6_fadesNow_41 : decode cX6_fadesNow 41 = .ok (.iinc 3 (-1), 3) := by decide +kernel
theorem dX6_fadesNow_44 : decode cX6_fadesNow 44 = .ok (.goto (-34), 3) := by decide +kernel
theorem dX6_fadesNow_47 : decode cX6_fadesNow 47 = .ok (.return_, 1) := by decide +kernel
def bX6_fadesNow_10 (fu : Nat) : Nat → mt_St → Int32 → Int32 → Int32 → Option (Unit × mt_St)
  | 0, _, _, _, _ => none
  | n + 1, σ, x1, x2, x3 =>
    if x3 < 0 then
      some ((), σ)
    else
      if ((x2 >>> (x3 &&& 31)) &&& (1 : Int32)) = (1 : Int32) then
        mt_ask (fX6_treatyAt fu x1 (3 : Int32)) fun r1 =>
        mt_chk (mt_in r1 86) <|
        mt_bnd (mt_up σ 57 (Int32.toNatClampNeg r1) (x2 &&& (((1 : Int32) <<< (x3 &&& 31)) ^^^ (-1 : Int32)))) fun s2 =>
        some ((), s2)
      else
        bX6_fadesNow_10 fu n σ x1 x2 (x3 + -1)
set_option maxHeartbeats 4000000 in
set_option maxRecDepth 20000 in
theorem vX6_fadesNow_10 {K : mt_C} {fu : Nat} {r : Unit} {σf : mt_St} (hQ : mt_R K none none σf) : ∀ (n : Nat) (σ : mt_St) (x1 : Int32) (x2 : Int32) (x3 : Int32), mt_V K cX6_fadesNow RX6 4 2 σ 10 [(0, .ref (mt_adr (kG K) 56)), (1, .int x1), (2, .int x2), (3, .int x3)] [] (bX6_fadesNow_10 fu n σ x1 x2 x3 = some (r, σf)) := by
  intro n
  induction n with
  | zero => intro σ x1 x2 x3; intro hP; unfold bX6_fadesNow_10 at hP; cases hP
  | succ n ih =>
    intro σ x1 x2 x3
    unfold bX6_fadesNow_10
    refine mv_iload_n 3 dX6_fadesNow_10 rfl rfl ?_
    refine mv_if_lt 47 dX6_fadesNow_11 (by decide) ?_ ?_
    · exact mv_vret hQ dX6_fadesNow_47
    · refine mv_iload_n 2 dX6_fadesNow_14 rfl rfl ?_
      refine mv_iload_n 3 dX6_fadesNow_15 rfl rfl ?_
      refine mv_ishr dX6_fadesNow_16 ?_
      refine mv_iconst (v := 1) dX6_fadesNow_17 ic_1 ?_
      refine mv_iand dX6_fadesNow_18 ?_
      refine mv_iconst (v := 1) dX6_fadesNow_19 ic_1 ?_
      refine mv_icmp_ne 41 dX6_fadesNow_20 (by decide) ?_ ?_
      · refine mv_iinc (k0 := 3) (v := x3 + -1) (lv' := [(0, .ref (mt_adr (kG K) 56)), (1, .int x1), (2, .int x2), (3, .int (x3 + -1))]) [1, 2, 3, 0] dX6_fadesNow_41 rfl (mt_inc ic_m1) (by decide) rfl ?_
        refine mv_goto 10 dX6_fadesNow_44 (by decide) ?_
        exact ih σ x1 x2 (x3 + -1)
      · refine mv_aload_n 0 dX6_fadesNow_23 rfl rfl ?_
        refine mg_X6_0 fl_X6_9 dX6_fadesNow_24 ?_
        refine mv_iload_n 1 dX6_fadesNow_27 rfl rfl ?_
        refine mv_iconst (v := 3) dX6_fadesNow_28 ic_3 ?_
        refine mv_cSri (As := [.int x1, .int (3 : Int32)]) (st := [.ref (mt_adr (kG K) 57)]) cal_X6_treatyAt sta_X6_treatyAt ml_X6_85 rfl (by decide) rfl (Nat.le_of_ble_eq_true rfl) dX6_fadesNow_29 (fun r h => co_X6_treatyAt h) (fun r1 => ?_)
        refine mv_iload_n 2 dX6_fadesNow_32 rfl rfl ?_
        refine mv_iconst (v := 1) dX6_fadesNow_33 ic_1 ?_
        refine mv_iload_n 3 dX6_fadesNow_34 rfl rfl ?_
        refine mv_ishl dX6_fadesNow_35 ?_
        refine mv_iconst (v := -1) dX6_fadesNow_36 ic_m1 ?_
        refine mv_ixor dX6_fadesNow_37 ?_
        refine mv_iand dX6_fadesNow_38 ?_
        refine mv_iast 86 rfl rfl dX6_fadesNow_39 (fun s2 => ?_)
        exact mv_vret hQ dX6_fadesNow_40
def fX6_fadesNow (fu : Nat) (σ : mt_St) (a1 : Int32) : Option (Unit × mt_St) :=
  mt_ask (fX6_treatyIs fu σ a1 (3 : Int32)) fun r1 =>
  bX6_fadesNow_10 fu fu σ a1 r1 (11 : Int32)
set_option maxHeartbeats 4000000 in
set_option maxRecDepth 20000 in
theorem vX6_fadesNow {K : mt_C} {fu : Nat} {σ : mt_St} {a1 : Int32} {r : Unit} {σf : mt_St} (hQ : mt_R K none none σf) : mt_V K cX6_fadesNow RX6 4 2 σ 0 [(0, .ref (mt_adr (kG K) 56)), (1, .int a1)] [] (fX6_fadesNow fu σ a1 = some (r, σf)) := by
  unfold fX6_fadesNow
  refine mv_aload_n 0 dX6_fadesNow_0 rfl rfl ?_
  refine mv_iload_n 1 dX6_fadesNow_1 rfl rfl ?_
  refine mv_iconst (v := 3) dX6_fadesNow_2 ic_3 ?_
  refine mv_cVri (As := [.int a1, .int (3 : Int32)]) (st := []) cal_X6_treatyIs ins_X6_treatyIs ml_X6_99 rfl (by decide) rfl rfl (by decide) rfl (Nat.le_of_ble_eq_true rfl) dX6_fadesNow_3 (fun r h => co_X6_treatyIs h) (fun r1 => ?_)
  refine mv_istore_n (lv' := [(0, .ref (mt_adr (kG K) 56)), (1, .int a1), (2, .int r1)]) [1, 2, 0] dX6_fadesNow_6 rfl (by decide) rfl ?_
  refine mv_bipush (v := 11) dX6_fadesNow_7 bp_11 ?_
  refine mv_istore_n (lv' := [(0, .ref (mt_adr (kG K) 56)), (1, .int a1), (2, .int r1), (3, .int (11 : Int32))]) [1, 2, 3, 0] dX6_fadesNow_9 rfl (by decide) rfl ?_
  exact vX6_fadesNow_10 hQ fu σ a1 r1 (11 : Int32)
theorem co_X6_fadesNow {l : Launch} {G : mt_G} {fu : Nat} {σ : mt_St} {a1 : Int32} {r : Unit} {σf : mt_St}  (h : fX6_fadesNow fu σ a1 = some (r, σf)) : mt_Con l G yX6_fadesNow cX6_fadesNow 4 none 2 [.ref (mt_adr G 56), .int a1] σ none σf :=
  mt_con (by decide) (Nat.le_of_ble_eq_true rfl) (fun K hl hG hQ => by subst hl; subst hG; exact fun _ => vX6_fadesNow  hQ h)
theorem dX6_holds_0 : decode cX6_holds 0 = .ok (.aload_n 0, 1) := by decide +kernel
theorem dX6_holds_1 : decode cX6_holds 1 = .ok (.iload_n 1, 1) := by decide +kernel
theorem dX6_holds_2 : decode cX6_holds 2 = .ok (.invokevirtual 117, 3) := by decide +kernel
theorem dX6_holds_5 : decode cX6_holds 5 = .ok (.aload_n 0, 1) := by decide +kernel
theorem dX6_holds_6 : decode cX6_holds 6 = .ok (.iload_n 1, 1) := by decide +kernel
theorem dX6_holds_7 : decode cX6_holds 7 = .ok (.invokevirtual 105, 3) := by decide +kernel
theorem dX6_holds_10 : decode cX6_holds 10 = .ok (.if_icmp .le 64, 3) := by decide +kernel
theorem dX6_holds_13 : decode cX6_holds 13 = .ok (.aload_n 0, 1) := by decide +kernel
theorem dX6_holds_14 : decode cX6_holds 14 = .ok (.getfield 9, 3) := by decide +kernel
theorem dX6_holds_17 : decode cX6_holds 17 = .ok (.iload_n 1, 1) := by decide +kernel
theorem dX6_holds_18 : decode cX6_holds 18 = .ok (.iconst 4, 1) := by decide +kernel
theorem dX6_holds_19 : decode cX6_holds 19 = .ok (.invokestatic 85, 3) := by decide +kernel
theorem dX6_holds_22 : decode cX6_holds 22 = .ok (.iconst 0, 1) := by decide +kernel
theorem dX6_holds_23 : decode cX6_holds 23 = .ok (.iastore, 1) := by decide +kernel
theorem dX6_holds_24 : decode cX6_holds 24 = .ok (.aload_n 0, 1) := by decide +kernel
theorem dX6_holds_25 : decode cX6_holds 25 = .ok (.getfield 9, 3) := by decide +kernel
theorem dX6_holds_28 : decode cX6_holds 28 = .ok (.iload_n 1, 1) := by decide +kernel
theorem dX6_holds_29 : decode cX6_holds 29 = .ok (.iconst 5, 1) := by decide +kernel
theorem dX6_holds_30 : decode cX6_holds 30 = .ok (.invokestatic 85, 3) := by decide +kernel
theorem dX6_holds_33 : decode cX6_holds 33 = .ok (.iconst 0, 1) := by decide +kernel
theorem dX6_holds_34 : decode cX6_holds 34 = .ok (.iastore, 1) := by decide +kernel
theorem dX6_holds_35 : decode cX6_holds 35 = .ok (.aload_n 0, 1) := by decide +kernel
theorem dX6_holds_36 : decode cX6_holds 36 = .ok (.getfield 9, 3) := by decide +kernel
theorem dX6_holds_39 : decode cX6_holds 39 = .ok (.iload_n 1, 1) := by decide +kernel
theorem dX6_holds_40 : decode cX6_holds 40 = .ok (.bipush 6, 2) := by decide +kernel
theorem dX6_holds_42 : decode cX6_holds 42 = .ok (.invokestatic 85, 3) := by decide +kernel
theorem dX6_holds_45 : decode cX6_holds 45 = .ok (.iconst 0, 1) := by decide +kernel
theorem dX6_holds_46 : decode cX6_holds 46 = .ok (.iastore, 1) := by decide +kernel
theorem dX6_holds_47 : decode cX6_holds 47 = .ok (.aload_n 0, 1) := by decide +kernel
theorem dX6_holds_48 : decode cX6_holds 48 = .ok (.iload_n 1, 1) := by decide +kernel
theorem dX6_holds_49 : decode cX6_holds 49 = .ok (.bipush 7, 2) := by decide +kernel
theorem dX6_holds_51 : decode cX6_holds 51 = .ok (.invokestatic 85, 3) := by decide +kernel
theorem dX6_holds_54 : decode cX6_holds 54 = .ok (.iconst 1, 1) := by decide +kernel
theorem dX6_holds_55 : decode cX6_holds 55 = .ok (.sipush 9999, 3) := by decide +kernel
theorem dX6_holds_58 : decode cX6_holds 58 = .ok (.invokevirtual 141, 3) := by decide +kernel
theorem dX6_holds_61 : decode cX6_holds 61 = .ok (.aload_n 0, 1) := by decide +kernel
theorem dX6_holds_62 : decode cX6_holds 62 = .ok (.dup, 1) := by decide +kernel
theorem dX6_holds_63 : decode cX6_holds 63 = .ok (.getfield 145, 3) := by decide +kernel
theorem dX6_holds_66 : decode cX6_holds 66 = .ok (.iconst 1, 1) := by decide +kernel
theorem dX6_holds_67 : decode cX6_holds 67 = .ok (.iadd, 1) := by decide +kernel
theorem dX6_holds_68 : decode cX6_holds 68 = .ok (.putfield 145, 3) := by decide +kernel
theorem dX6_holds_71 : decode cX6_holds 71 = .ok (.goto 56, 3) := by decide +kernel
theorem dX6_holds_74 : decode cX6_holds 74 = .ok (.aload_n 0, 1) := by decide +kernel
theorem dX6_holds_75 : decode cX6_holds 75 = .ok (.iconst 3, 1) := by decide +kernel
theorem dX6_holds_76 : decode cX6_holds 76 = .ok (.aload_n 0, 1) := by decide +kernel
theorem dX6_holds_77 : decode cX6_holds 77 = .ok (.iload_n 1, 1) := by decide +kernel
theorem dX6_holds_78 : decode cX6_holds 78 = .ok (.invokevirtual 111, 3) := by decide +kernel
theorem dX6_holds_81 : decode cX6_holds 81 = .ok (.ldc 149, 2) := by decide +kernel
theorem dX6_holds_83 : decode cX6_holds 83 = .ok (.invokevirtual 141, 3) := by decide +kernel
theorem dX6_holds_86 : decode cX6_holds 86 = .ok (.aload_n 0, 1) := by decide +kernel
theorem dX6_holds_87 : decode cX6_holds 87 = .ok (.iload_n 1, 1) := by decide +kernel
theorem dX6_holds_88 : decode cX6_holds 88 = .ok (.iconst 5, 1) := by decide +kernel
theorem dX6_holds_89 : decode cX6_holds 89 = .ok (.invokestatic 85, 3) := by decide +kernel
theorem dX6_holds_92 : decode cX6_holds 92 = .ok (.iconst 1, 1) := by decide +kernel
theorem dX6_holds_93 : decode cX6_holds 93 = .ok (.sipush 9999, 3) := by decide +kernel
theorem dX6_holds_96 : decode cX6_holds 96 = .ok (.invokevirtual 141, 3) := by decide +kernel
theorem dX6_holds_99 : decode cX6_holds 99 = .ok (.aload_n 0, 1) := by decide +kernel
theorem dX6_holds_100 : decode cX6_holds 100 = .ok (.iload_n 1, 1) := by decide +kernel
theorem dX6_holds_101 : decode cX6_holds 101 = .ok (.invokevirtual 108, 3) := by decide +kernel
theorem dX6_holds_104 : decode cX6_holds 104 = .ok (.ifCond .le 23, 3) := by decide +kernel
theorem dX6_holds_107 : decode cX6_holds 107 = .ok (.aload_n 0, 1) := by decide +kernel
theorem dX6_holds_108 : decode cX6_holds 108 = .ok (.iload_n 1, 1) := by decide +kernel
theorem dX6_holds_109 : decode cX6_holds 109 = .ok (.iconst 5, 1) := by decide +kernel
theorem dX6_holds_110 : decode cX6_holds 110 = .ok (.invokevirtual 99, 3) := by decide +kernel
theorem dX6_holds_113 : decode cX6_holds 113 = .ok (.aload_n 0, 1) := by decide +kernel
theorem dX6_holds_114 : decode cX6_holds 114 = .ok (.iload_n 1, 1) := by decide +kernel
theorem dX6_holds_115 : decode cX6_holds 115 = .ok (.invokevirtual 108, 3) := by decide +kernel
theorem dX6_holds_118 : decode cX6_holds 118 = .ok (.irem, 1) := by decide +kernel
theorem dX6_holds_119 : decode cX6_holds 119 = .ok (.ifCond .ne 8, 3) := by decide +kernel
theorem dX6_holds_122 : decode cX6_holds 122 = .ok (.aload_n 0, 1) := by decide +kernel
theorem dX6_holds_123 : decode cX6_holds 123 = .ok (.iload_n 1, 1) := by decide +kernel
theorem dX6_holds_124 : decode cX6_holds 124 = .ok (.invokevirtual 150, 3) := by decide +kernel
theorem dX6_holds_127 : decode cX6_holds 127 = .ok (.return_, 1) := by decide +kernel
def bX6_holds_127 (fu : Nat) (σ : mt_St) : Option (Unit × mt_St) :=
  some ((), σ)
set_option maxHeartbeats 4000000 in
set_option maxRecDepth 20000 in
theorem vX6_holds_127 {K : mt_C} {fu : Nat} {r : Unit} {σf : mt_St} (hQ : mt_R K none none σf) : ∀ (σ : mt_St), mt_V K cX6_holds RX6 2 3 σ 127 [] [] (bX6_holds_127 fu σ = some (r, σf)) := by
  intro σ
  unfold bX6_holds_127
  exact mv_vret hQ dX6_holds_127
def fX6_holds (fu : Nat) (σ : mt_St) (a1 : Int32) : Option (Unit × mt_St) :=
  mt_ask (fX6_upIn fu σ a1) fun r1 =>
  mt_ask (fX6_bears fu σ a1) fun r2 =>
  if r1 ≤ r2 then
    mt_ask (fX6_yields fu σ a1) fun r3 =>
    mt_call (fX6_more fu σ (3 : Int32) r3 (99999 : Int32)) fun _ s5 =>
    mt_ask (fX6_treatyAt fu a1 (5 : Int32)) fun r6 =>
    mt_call (fX6_more fu s5 r6 (1 : Int32) (9999 : Int32)) fun _ s8 =>
    mt_ask (fX6_fades fu s8 a1) fun r9 =>
    if r9 ≤ 0 then
      bX6_holds_127 fu s8
    else
      mt_ask (fX6_treatyIs fu s8 a1 (5 : Int32)) fun r10 =>
      mt_ask (fX6_fades fu s8 a1) fun r11 =>
      mt_chk (!decide (r11 = 0)) <|
      if (r10 - r10 / r11 * r11) = 0 then
        mt_call (fX6_fadesNow fu s8 a1) fun _ s13 =>
        bX6_holds_127 fu s13
      else
        bX6_holds_127 fu s8
  else
    mt_ask (fX6_treatyAt fu a1 (4 : Int32)) fun r14 =>
    mt_chk (mt_in r14 86) <|
    mt_bnd (mt_up σ 57 (Int32.toNatClampNeg r14) (0 : Int32)) fun s15 =>
    mt_ask (fX6_treatyAt fu a1 (5 : Int32)) fun r16 =>
    mt_chk (mt_in r16 86) <|
    mt_bnd (mt_up s15 57 (Int32.toNatClampNeg r16) (0 : Int32)) fun s17 =>
    mt_ask (fX6_treatyAt fu a1 (6 : Int32)) fun r18 =>
    mt_chk (mt_in r18 86) <|
    mt_bnd (mt_up s17 57 (Int32.toNatClampNeg r18) (0 : Int32)) fun s19 =>
    mt_ask (fX6_treatyAt fu a1 (7 : Int32)) fun r20 =>
    mt_call (fX6_more fu s19 r20 (1 : Int32) (9999 : Int32)) fun _ s22 =>
    mt_bnd (mt_up s22 56 5 ((s22 56 5) + (1 : Int32))) fun s23 =>
    bX6_holds_127 fu s23
set_option maxHeartbeats 4000000 in
set_option maxRecDepth 20000 in
theorem vX6_holds {K : mt_C} {fu : Nat} {σ : mt_St} {a1 : Int32} {r : Unit} {σf : mt_St} (hQ : mt_R K none none σf) : mt_V K cX6_holds RX6 2 3 σ 0 [(0, .ref (mt_adr (kG K) 56)), (1, .int a1)] [] (fX6_holds fu σ a1 = some (r, σf)) := by
  unfold fX6_holds
  refine mv_aload_n 0 dX6_holds_0 rfl rfl ?_
  refine mv_iload_n 1 dX6_holds_1 rfl rfl ?_
  refine mv_cVri (As := [.int a1]) (st := []) cal_X6_upIn ins_X6_upIn ml_X6_117 rfl (by decide) rfl rfl (by decide) rfl (Nat.le_of_ble_eq_true rfl) dX6_holds_2 (fun r h => co_X6_upIn h) (fun r1 => ?_)
  refine mv_aload_n 0 dX6_holds_5 rfl rfl ?_
  refine mv_iload_n 1 dX6_holds_6 rfl rfl ?_
  refine mv_cVri (As := [.int a1]) (st := [.int r1]) cal_X6_bears ins_X6_bears ml_X6_105 rfl (by decide) rfl rfl (by decide) rfl (Nat.le_of_ble_eq_true rfl) dX6_holds_7 (fun r h => co_X6_bears h) (fun r2 => ?_)
  refine mv_icmp_le 74 dX6_holds_10 (by decide) ?_ ?_
  · refine mv_aload_n 0 dX6_holds_74 rfl rfl ?_
    refine mv_iconst (v := 3) dX6_holds_75 ic_3 ?_
    refine mv_aload_n 0 dX6_holds_76 rfl rfl ?_
    refine mv_iload_n 1 dX6_holds_77 rfl rfl ?_
    refine mv_cVri (As := [.int a1]) (st := [.int (3 : Int32), .ref (mt_adr (kG K) 56)]) cal_X6_yields ins_X6_yields ml_X6_111 rfl (by decide) rfl rfl (by decide) rfl (Nat.le_of_ble_eq_true rfl) dX6_holds_78 (fun r h => co_X6_yields h) (fun r3 => ?_)
    refine mv_ldc kc_X6_149 dX6_holds_81 ?_
    refine mv_cVwv (As := [.int (3 : Int32), .int r3, .int (99999 : Int32)]) (st := []) cal_X6_more ins_X6_more ml_X6_141 rfl (by decide) rfl rfl (by decide) rfl (Nat.le_of_ble_eq_true rfl) dX6_holds_83 (fun r s h => co_X6_more h) (fun r4 s5 => ?_)
    refine mv_aload_n 0 dX6_holds_86 rfl rfl ?_
    refine mv_iload_n 1 dX6_holds_87 rfl rfl ?_
    refine mv_iconst (v := 5) dX6_holds_88 ic_5 ?_
    refine mv_cSri (As := [.int a1, .int (5 : Int32)]) (st := [.ref (mt_adr (kG K) 56)]) cal_X6_treatyAt sta_X6_treatyAt ml_X6_85 rfl (by decide) rfl (Nat.le_of_ble_eq_true rfl) dX6_holds_89 (fun r h => co_X6_treatyAt h) (fun r6 => ?_)
    refine mv_iconst (v := 1) dX6_holds_92 ic_1 ?_
    refine mv_sipush (v := 9999) dX6_holds_93 sp_9999 ?_
    refine mv_cVwv (As := [.int r6, .int (1 : Int32), .int (9999 : Int32)]) (st := []) cal_X6_more ins_X6_more ml_X6_141 rfl (by decide) rfl rfl (by decide) rfl (Nat.le_of_ble_eq_true rfl) dX6_holds_96 (fun r s h => co_X6_more h) (fun r7 s8 => ?_)
    refine mv_aload_n 0 dX6_holds_99 rfl rfl ?_
    refine mv_iload_n 1 dX6_holds_100 rfl rfl ?_
    refine mv_cVri (As := [.int a1]) (st := []) cal_X6_fades ins_X6_fades ml_X6_108 rfl (by decide) rfl rfl (by decide) rfl (Nat.le_of_ble_eq_true rfl) dX6_holds_101 (fun r h => co_X6_fades h) (fun r9 => ?_)
    refine mv_if_le 127 dX6_holds_104 (by decide) ?_ ?_
    · refine mv_sub (lv' := []) [] rfl ?_
      exact vX6_holds_127 hQ s8
    · refine mv_aload_n 0 dX6_holds_107 rfl rfl ?_
      refine mv_iload_n 1 dX6_holds_108 rfl rfl ?_
      refine mv_iconst (v := 5) dX6_holds_109 ic_5 ?_
      refine mv_cVri (As := [.int a1, .int (5 : Int32)]) (st := []) cal_X6_treatyIs ins_X6_treatyIs ml_X6_99 rfl (by decide) rfl rfl (by decide) rfl (Nat.le_of_ble_eq_true rfl) dX6_holds_110 (fun r h => co_X6_treatyIs h) (fun r10 => ?_)
      refine mv_aload_n 0 dX6_holds_113 rfl rfl ?_
      refine mv_iload_n 1 dX6_holds_114 rfl rfl ?_
      refine mv_cVri (As := [.int a1]) (st := [.int r10]) cal_X6_fades ins_X6_fades ml_X6_108 rfl (by decide) rfl rfl (by decide) rfl (Nat.le_of_ble_eq_true rfl) dX6_holds_115 (fun r h => co_X6_fades h) (fun r11 => ?_)
      refine mv_irem_c dX6_holds_118 ?_
      refine mv_if_ne 127 dX6_holds_119 (by decide) ?_ ?_
      · refine mv_sub (lv' := []) [] rfl ?_
        exact vX6_holds_127 hQ s8
      · refine mv_aload_n 0 dX6_holds_122 rfl rfl ?_
        refine mv_iload_n 1 dX6_holds_123 rfl rfl ?_
        refine mv_cVwv (As := [.int a1]) (st := []) cal_X6_fadesNow ins_X6_fadesNow ml_X6_150 rfl (by decide) rfl rfl (by decide) rfl (Nat.le_of_ble_eq_true rfl) dX6_holds_124 (fun r s h => co_X6_fadesNow h) (fun r12 s13 => ?_)
        refine mv_sub (lv' := []) [] rfl ?_
        exact vX6_holds_127 hQ s13
  · refine mv_aload_n 0 dX6_holds_13 rfl rfl ?_
    refine mg_X6_0 fl_X6_9 dX6_holds_14 ?_
    refine mv_iload_n 1 dX6_holds_17 rfl rfl ?_
    refine mv_iconst (v := 4) dX6_holds_18 ic_4 ?_
    refine mv_cSri (As := [.int a1, .int (4 : Int32)]) (st := [.ref (mt_adr (kG K) 57)]) cal_X6_treatyAt sta_X6_treatyAt ml_X6_85 rfl (by decide) rfl (Nat.le_of_ble_eq_true rfl) dX6_holds_19 (fun r h => co_X6_treatyAt h) (fun r14 => ?_)
    refine mv_iconst (v := 0) dX6_holds_22 ic_0 ?_
    refine mv_iast 86 rfl rfl dX6_holds_23 (fun s15 => ?_)
    refine mv_aload_n 0 dX6_holds_24 rfl rfl ?_
    refine mg_X6_0 fl_X6_9 dX6_holds_25 ?_
    refine mv_iload_n 1 dX6_holds_28 rfl rfl ?_
    refine mv_iconst (v := 5) dX6_holds_29 ic_5 ?_
    refine mv_cSri (As := [.int a1, .int (5 : Int32)]) (st := [.ref (mt_adr (kG K) 57)]) cal_X6_treatyAt sta_X6_treatyAt ml_X6_85 rfl (by decide) rfl (Nat.le_of_ble_eq_true rfl) dX6_holds_30 (fun r h => co_X6_treatyAt h) (fun r16 => ?_)
    refine mv_iconst (v := 0) dX6_holds_33 ic_0 ?_
    refine mv_iast 86 rfl rfl dX6_holds_34 (fun s17 => ?_)
    refine mv_aload_n 0 dX6_holds_35 rfl rfl ?_
    refine mg_X6_0 fl_X6_9 dX6_holds_36 ?_
    refine mv_iload_n 1 dX6_holds_39 rfl rfl ?_
    refine mv_bipush (v := 6) dX6_holds_40 bp_6 ?_
    refine mv_cSri (As := [.int a1, .int (6 : Int32)]) (st := [.ref (mt_adr (kG K) 57)]) cal_X6_treatyAt sta_X6_treatyAt ml_X6_85 rfl (by decide) rfl (Nat.le_of_ble_eq_true rfl) dX6_holds_42 (fun r h => co_X6_treatyAt h) (fun r18 => ?_)
    refine mv_iconst (v := 0) dX6_holds_45 ic_0 ?_
    refine mv_iast 86 rfl rfl dX6_holds_46 (fun s19 => ?_)
    refine mv_aload_n 0 dX6_holds_47 rfl rfl ?_
    refine mv_iload_n 1 dX6_holds_48 rfl rfl ?_
    refine mv_bipush (v := 7) dX6_holds_49 bp_7 ?_
    refine mv_cSri (As := [.int a1, .int (7 : Int32)]) (st := [.ref (mt_adr (kG K) 56)]) cal_X6_treatyAt sta_X6_treatyAt ml_X6_85 rfl (by decide) rfl (Nat.le_of_ble_eq_true rfl) dX6_holds_51 (fun r h => co_X6_treatyAt h) (fun r20 => ?_)
    refine mv_iconst (v := 1) dX6_holds_54 ic_1 ?_
    refine mv_sipush (v := 9999) dX6_holds_55 sp_9999 ?_
    refine mv_cVwv (As := [.int r20, .int (1 : Int32), .int (9999 : Int32)]) (st := []) cal_X6_more ins_X6_more ml_X6_141 rfl (by decide) rfl rfl (by decide) rfl (Nat.le_of_ble_eq_true rfl) dX6_holds_58 (fun r s h => co_X6_more h) (fun r21 s22 => ?_)
    refine mv_aload_n 0 dX6_holds_61 rfl rfl ?_
    refine mv_dup dX6_holds_62 rfl ?_
    refine mg_X6_5 fl_X6_145 dX6_holds_63 ?_
    refine mv_iconst (v := 1) dX6_holds_66 ic_1 ?_
    refine mv_iadd dX6_holds_67 ?_
    refine mp_X6_5 fl_X6_145 dX6_holds_68 (fun s23 => ?_)
    refine mv_goto 127 dX6_holds_71 (by decide) ?_
    refine mv_sub (lv' := []) [] rfl ?_
    exact vX6_holds_127 hQ s23
theorem co_X6_holds {l : Launch} {G : mt_G} {fu : Nat} {σ : mt_St} {a1 : Int32} {r : Unit} {σf : mt_St}  (h : fX6_holds fu σ a1 = some (r, σf)) : mt_Con l G yX6_holds cX6_holds 2 none 3 [.ref (mt_adr G 56), .int a1] σ none σf :=
  mt_con (by decide) (Nat.le_of_ble_eq_true rfl) (fun K hl hG hQ => by subst hl; subst hG; exact fun _ => vX6_holds  hQ h)
theorem dX6_waits_0 : decode cX6_waits 0 = .ok (.aload_n 0, 1) := by decide +kernel
theorem dX6_waits_1 : decode cX6_waits 1 = .ok (.iload_n 1, 1) := by decide +kernel
theorem dX6_waits_2 : decode cX6_waits 2 = .ok (.bipush 6, 2) := by decide +kernel
theorem dX6_waits_4 : decode cX6_waits 4 = .ok (.invokestatic 85, 3) := by decide +kernel
theorem dX6_waits_7 : decode cX6_waits 7 = .ok (.iconst 1, 1) := by decide +kernel
theorem dX6_waits_8 : decode cX6_waits 8 = .ok (.sipush 9999, 3) := by decide +kernel
theorem dX6_waits_11 : decode cX6_waits 11 = .ok (.invokevirtual 141, 3) := by decide +kernel
theorem dX6_waits_14 : decode cX6_waits 14 = .ok (.aload_n 0, 1) := by decide +kernel
theorem dX6_waits_15 : decode cX6_waits 15 = .ok (.iload_n 1, 1) := by decide +kernel
theorem dX6_waits_16 : decode cX6_waits 16 = .ok (.invokevirtual 114, 3) := by decide +kernel
theorem dX6_waits_19 : decode cX6_waits 19 = .ok (.ifCond .le 68, 3) := by decide +kernel
theorem dX6_waits_22 : decode cX6_waits 22 = .ok (.aload_n 0, 1) := by decide +kernel
theorem dX6_waits_23 : decode cX6_waits 23 = .ok (.iload_n 1, 1) := by decide +kernel
theorem dX6_waits_24 : decode cX6_waits 24 = .ok (.bipush 6, 2) := by decide +kernel
theorem dX6_waits_26 : decode cX6_waits 26 = .ok (.invokevirtual 99, 3) := by decide +kernel
theorem dX6_waits_29 : decode cX6_waits 29 = .ok (.aload_n 0, 1) := by decide +kernel
theorem dX6_waits_30 : decode cX6_waits 30 = .ok (.iload_n 1, 1) := by decide +kernel
theorem dX6_waits_31 : decode cX6_waits 31 = .ok (.invokevirtual 114, 3) := by decide +kernel
theorem dX6_waits_34 : decode cX6_waits 34 = .ok (.if_icmp .lt 53, 3) := by decide +kernel
theorem dX6_waits_37 : decode cX6_waits 37 = .ok (.aload_n 0, 1) := by decide +kernel
theorem dX6_waits_38 : decode cX6_waits 38 = .ok (.getfield 9, 3) := by decide +kernel
theorem dX6_waits_41 : decode cX6_waits 41 = .ok (.iload_n 1, 1) := by decide +kernel
theorem dX6_waits_42 : decode cX6_waits 42 = .ok (.iconst 4, 1) := by decide +kernel
theorem dX6_waits_43 : decode cX6_waits 43 = .ok (.invokestatic 85, 3) := by decide +kernel
theorem dX6_waits_46 : decode cX6_waits 46 = .ok (.iconst 1, 1) := by decide +kernel
theorem dX6_waits_47 : decode cX6_waits 47 = .ok (.iastore, 1) := by decide +kernel
theorem dX6_waits_48 : decode cX6_waits 48 = .ok (.aload_n 0, 1) := by decide +kernel
theorem dX6_waits_49 : decode cX6_waits 49 = .ok (.getfield 9, 3) := by decide +kernel
theorem dX6_waits_52 : decode cX6_waits 52 = .ok (.iload_n 1, 1) := by decide +kernel
theorem dX6_waits_53 : decode cX6_waits 53 = .ok (.iconst 3, 1) := by decide +kernel
theorem dX6_waits_54 : decode cX6_waits 54 = .ok (.invokestatic 85, 3) := by decide +kernel
theorem dX6_waits_57 : decode cX6_waits 57 = .ok (.aload_n 0, 1) := by decide +kernel
theorem dX6_waits_58 : decode cX6_waits 58 = .ok (.getfield 9, 3) := by decide +kernel
theorem dX6_waits_61 : decode cX6_waits 61 = .ok (.iconst 4, 1) := by decide +kernel
theorem dX6_waits_62 : decode cX6_waits 62 = .ok (.iaload, 1) := by decide +kernel
theorem dX6_waits_63 : decode cX6_waits 63 = .ok (.iastore, 1) := by decide +kernel
theorem dX6_waits_64 : decode cX6_waits 64 = .ok (.aload_n 0, 1) := by decide +kernel
theorem dX6_waits_65 : decode cX6_waits 65 = .ok (.getfield 9, 3) := by decide +kernel
theorem dX6_waits_68 : decode cX6_waits 68 = .ok (.iload_n 1, 1) := by decide +kernel
theorem dX6_waits_69 : decode cX6_waits 69 = .ok (.iconst 5, 1) := by decide +kernel
theorem dX6_waits_70 : decode cX6_waits 70 = .ok (.invokestatic 85, 3) := by decide +kernel
theorem dX6_waits_73 : decode cX6_waits 73 = .ok (.iconst 0, 1) := by decide +kernel
theorem dX6_waits_74 : decode cX6_waits 74 = .ok (.iastore, 1) := by decide +kernel
theorem dX6_waits_75 : decode cX6_waits 75 = .ok (.aload_n 0, 1) := by decide +kernel
theorem dX6_waits_76 : decode cX6_waits 76 = .ok (.getfield 9, 3) := by decide +kernel
theorem dX6_waits_79 : decode cX6_waits 79 = .ok (.iload_n 1, 1) := by decide +kernel
theorem dX6_waits_80 : decode cX6_waits 80 = .ok (.bipush 6, 2) := by decide +kernel
theorem dX6_waits_82 : decode cX6_waits 82 = .ok (.invokestatic 85, 3) := by decide +kernel
theorem dX6_waits_85 : decode cX6_waits 85 = .ok (.iconst 0, 1) := by decide +kernel
theorem dX6_waits_86 : decode cX6_waits 86 = .ok (.iastore, 1) := by decide +kernel
theorem dX6_waits_87 : decode cX6_waits 87 = .ok (.return_, 1) := by decide +kernel
def bX6_waits_87 (fu : Nat) (σ : mt_St) : Option (Unit × mt_St) :=
  some ((), σ)
set_option maxHeartbeats 4000000 in
set_option maxRecDepth 20000 in
theorem vX6_waits_87 {K : mt_C} {fu : Nat} {r : Unit} {σf : mt_St} (hQ : mt_R K none none σf) : ∀ (σ : mt_St), mt_V K cX6_waits RX6 2 3 σ 87 [] [] (bX6_waits_87 fu σ = some (r, σf)) := by
  intro σ
  unfold bX6_waits_87
  exact mv_vret hQ dX6_waits_87
def fX6_waits (fu : Nat) (σ : mt_St) (a1 : Int32) : Option (Unit × mt_St) :=
  mt_ask (fX6_treatyAt fu a1 (6 : Int32)) fun r1 =>
  mt_call (fX6_more fu σ r1 (1 : Int32) (9999 : Int32)) fun _ s3 =>
  mt_ask (fX6_renews fu s3 a1) fun r4 =>
  if r4 ≤ 0 then
    bX6_waits_87 fu s3
  else
    mt_ask (fX6_treatyIs fu s3 a1 (6 : Int32)) fun r5 =>
    mt_ask (fX6_renews fu s3 a1) fun r6 =>
    if r5 < r6 then
      bX6_waits_87 fu s3
    else
      mt_ask (fX6_treatyAt fu a1 (4 : Int32)) fun r7 =>
      mt_chk (mt_in r7 86) <|
      mt_bnd (mt_up s3 57 (Int32.toNatClampNeg r7) (1 : Int32)) fun s8 =>
      mt_ask (fX6_treatyAt fu a1 (3 : Int32)) fun r9 =>
      mt_chk (mt_in r9 86) <|
      mt_bnd (mt_up s8 57 (Int32.toNatClampNeg r9) (s8 57 4)) fun s10 =>
      mt_ask (fX6_treatyAt fu a1 (5 : Int32)) fun r11 =>
      mt_chk (mt_in r11 86) <|
      mt_bnd (mt_up s10 57 (Int32.toNatClampNeg r11) (0 : Int32)) fun s12 =>
      mt_ask (fX6_treatyAt fu a1 (6 : Int32)) fun r13 =>
      mt_chk (mt_in r13 86) <|
      mt_bnd (mt_up s12 57 (Int32.toNatClampNeg r13) (0 : Int32)) fun s14 =>
      bX6_waits_87 fu s14
set_option maxHeartbeats 4000000 in
set_option maxRecDepth 20000 in
theorem vX6_waits {K : mt_C} {fu : Nat} {σ : mt_St} {a1 : Int32} {r : Unit} {σf : mt_St} (hQ : mt_R K none none σf) : mt_V K cX6_waits RX6 2 3 σ 0 [(0, .ref (mt_adr (kG K) 56)), (1, .int a1)] [] (fX6_waits fu σ a1 = some (r, σf)) := by
  unfold fX6_waits
  refine mv_aload_n 0 dX6_waits_0 rfl rfl ?_
  refine mv_iload_n 1 dX6_waits_1 rfl rfl ?_
  refine mv_bipush (v := 6) dX6_waits_2 bp_6 ?_
  refine mv_cSri (As := [.int a1, .int (6 : Int32)]) (st := [.ref (mt_adr (kG K) 56)]) cal_X6_treatyAt sta_X6_treatyAt ml_X6_85 rfl (by decide) rfl (Nat.le_of_ble_eq_true rfl) dX6_waits_4 (fun r h => co_X6_treatyAt h) (fun r1 => ?_)
  refine mv_iconst (v := 1) dX6_waits_7 ic_1 ?_
  refine mv_sipush (v := 9999) dX6_waits_8 sp_9999 ?_
  refine mv_cVwv (As := [.int r1, .int (1 : Int32), .int (9999 : Int32)]) (st := []) cal_X6_more ins_X6_more ml_X6_141 rfl (by decide) rfl rfl (by decide) rfl (Nat.le_of_ble_eq_true rfl) dX6_waits_11 (fun r s h => co_X6_more h) (fun r2 s3 => ?_)
  refine mv_aload_n 0 dX6_waits_14 rfl rfl ?_
  refine mv_iload_n 1 dX6_waits_15 rfl rfl ?_
  refine mv_cVri (As := [.int a1]) (st := []) cal_X6_renews ins_X6_renews ml_X6_114 rfl (by decide) rfl rfl (by decide) rfl (Nat.le_of_ble_eq_true rfl) dX6_waits_16 (fun r h => co_X6_renews h) (fun r4 => ?_)
  refine mv_if_le 87 dX6_waits_19 (by decide) ?_ ?_
  · refine mv_sub (lv' := []) [] rfl ?_
    exact vX6_waits_87 hQ s3
  · refine mv_aload_n 0 dX6_waits_22 rfl rfl ?_
    refine mv_iload_n 1 dX6_waits_23 rfl rfl ?_
    refine mv_bipush (v := 6) dX6_waits_24 bp_6 ?_
    refine mv_cVri (As := [.int a1, .int (6 : Int32)]) (st := []) cal_X6_treatyIs ins_X6_treatyIs ml_X6_99 rfl (by decide) rfl rfl (by decide) rfl (Nat.le_of_ble_eq_true rfl) dX6_waits_26 (fun r h => co_X6_treatyIs h) (fun r5 => ?_)
    refine mv_aload_n 0 dX6_waits_29 rfl rfl ?_
    refine mv_iload_n 1 dX6_waits_30 rfl rfl ?_
    refine mv_cVri (As := [.int a1]) (st := [.int r5]) cal_X6_renews ins_X6_renews ml_X6_114 rfl (by decide) rfl rfl (by decide) rfl (Nat.le_of_ble_eq_true rfl) dX6_waits_31 (fun r h => co_X6_renews h) (fun r6 => ?_)
    refine mv_icmp_lt 87 dX6_waits_34 (by decide) ?_ ?_
    · refine mv_sub (lv' := []) [] rfl ?_
      exact vX6_waits_87 hQ s3
    · refine mv_aload_n 0 dX6_waits_37 rfl rfl ?_
      refine mg_X6_0 fl_X6_9 dX6_waits_38 ?_
      refine mv_iload_n 1 dX6_waits_41 rfl rfl ?_
      refine mv_iconst (v := 4) dX6_waits_42 ic_4 ?_
      refine mv_cSri (As := [.int a1, .int (4 : Int32)]) (st := [.ref (mt_adr (kG K) 57)]) cal_X6_treatyAt sta_X6_treatyAt ml_X6_85 rfl (by decide) rfl (Nat.le_of_ble_eq_true rfl) dX6_waits_43 (fun r h => co_X6_treatyAt h) (fun r7 => ?_)
      refine mv_iconst (v := 1) dX6_waits_46 ic_1 ?_
      refine mv_iast 86 rfl rfl dX6_waits_47 (fun s8 => ?_)
      refine mv_aload_n 0 dX6_waits_48 rfl rfl ?_
      refine mg_X6_0 fl_X6_9 dX6_waits_49 ?_
      refine mv_iload_n 1 dX6_waits_52 rfl rfl ?_
      refine mv_iconst (v := 3) dX6_waits_53 ic_3 ?_
      refine mv_cSri (As := [.int a1, .int (3 : Int32)]) (st := [.ref (mt_adr (kG K) 57)]) cal_X6_treatyAt sta_X6_treatyAt ml_X6_85 rfl (by decide) rfl (Nat.le_of_ble_eq_true rfl) dX6_waits_54 (fun r h => co_X6_treatyAt h) (fun r9 => ?_)
      refine mv_aload_n 0 dX6_waits_57 rfl rfl ?_
      refine mg_X6_0 fl_X6_9 dX6_waits_58 ?_
      refine mv_iconst (v := 4) dX6_waits_61 ic_4 ?_
      refine mv_ialdk 86 4 rfl rfl (by decide) (by decide) dX6_waits_62 ?_
      refine mv_iast 86 rfl rfl dX6_waits_63 (fun s10 => ?_)
      refine mv_aload_n 0 dX6_waits_64 rfl rfl ?_
      refine mg_X6_0 fl_X6_9 dX6_waits_65 ?_
      refine mv_iload_n 1 dX6_waits_68 rfl rfl ?_
      refine mv_iconst (v := 5) dX6_waits_69 ic_5 ?_
      refine mv_cSri (As := [.int a1, .int (5 : Int32)]) (st := [.ref (mt_adr (kG K) 57)]) cal_X6_treatyAt sta_X6_treatyAt ml_X6_85 rfl (by decide) rfl (Nat.le_of_ble_eq_true rfl) dX6_waits_70 (fun r h => co_X6_treatyAt h) (fun r11 => ?_)
      refine mv_iconst (v := 0) dX6_waits_73 ic_0 ?_
      refine mv_iast 86 rfl rfl dX6_waits_74 (fun s12 => ?_)
      refine mv_aload_n 0 dX6_waits_75 rfl rfl ?_
      refine mg_X6_0 fl_X6_9 dX6_waits_76 ?_
      refine mv_iload_n 1 dX6_waits_79 rfl rfl ?_
      refine mv_bipush (v := 6) dX6_waits_80 bp_6 ?_
      refine mv_cSri (As := [.int a1, .int (6 : Int32)]) (st := [.ref (mt_adr (kG K) 57)]) cal_X6_treatyAt sta_X6_treatyAt ml_X6_85 rfl (by decide) rfl (Nat.le_of_ble_eq_true rfl) dX6_waits_82 (fun r h => co_X6_treatyAt h) (fun r13 => ?_)
      refine mv_iconst (v := 0) dX6_waits_85 ic_0 ?_
      refine mv_iast 86 rfl rfl dX6_waits_86 (fun s14 => ?_)
      refine mv_sub (lv' := []) [] rfl ?_
      exact vX6_waits_87 hQ s14
theorem co_X6_waits {l : Launch} {G : mt_G} {fu : Nat} {σ : mt_St} {a1 : Int32} {r : Unit} {σf : mt_St}  (h : fX6_waits fu σ a1 = some (r, σf)) : mt_Con l G yX6_waits cX6_waits 2 none 3 [.ref (mt_adr G 56), .int a1] σ none σf :=
  mt_con (by decide) (Nat.le_of_ble_eq_true rfl) (fun K hl hG hQ => by subst hl; subst hG; exact fun _ => vX6_waits  hQ h)
theorem dX6_year_0 : decode cX6_year 0 = .ok (.aload_n 0, 1) := by decide +kernel
theorem dX6_year_1 : decode cX6_year 1 = .ok (.getfield 9, 3) := by decide +kernel
theorem dX6_year_4 : decode cX6_year 4 = .ok (.bipush 6, 2) := by decide +kernel
theorem dX6_year_6 : decode cX6_year 6 = .ok (.aload_n 0, 1) := by decide +kernel
theorem dX6_year_7 : decode cX6_year 7 = .ok (.getfield 9, 3) := by decide +kernel
theorem dX6_year_10 : decode cX6_year 10 = .ok (.iconst 0, 1) := by decide +kernel
theorem dX6_year_11 : decode cX6_year 11 = .ok (.iaload, 1) := by decide +kernel
theorem dX6_year_12 : decode cX6_year 12 = .ok (.bipush 6, 2) := by decide +kernel
theorem dX6_year_14 : decode cX6_year 14 = .ok (.irem, 1) := by decide +kernel
theorem dX6_year_15 : decode cX6_year 15 = .ok (.iadd, 1) := by decide +kernel
theorem dX6_year_16 : decode cX6_year 16 = .ok (.iaload, 1) := by decide +kernel
theorem dX6_year_17 : decode cX6_year 17 = .ok (.istore_n 1, 1) := by decide +kernel
theorem dX6_year_18 : decode cX6_year 18 = .ok (.iload_n 1, 1) := by decide +kernel
theorem dX6_year_19 : decode cX6_year 19 = .ok (.bipush 12, 2) := by decide +kernel
theorem dX6_year_21 : decode cX6_year 21 = .ok (.if_icmp .ge 15, 3) := by decide +kernel
theorem dX6_year_24 : decode cX6_year 24 = .ok (.aload_n 0, 1) := by decide +kernel
theorem dX6_year_25 : decode cX6_year 25 = .ok (.getfield 9, 3) := by decide +kernel
theorem dX6_year_28 : decode cX6_year 28 = .ok (.iconst 5, 1) := by decide +kernel
theorem dX6_year_29 : decode cX6_year 29 = .ok (.dup2, 1) := by decide +kernel
theorem dX6_year_30 : decode cX6_year 30 = .ok (.iaload, 1) := by decide +kernel
theorem dX6_year_31 : decode cX6_year 31 = .ok (.iconst 1, 1) := by decide +kernel
theorem dX6_year_32 : decode cX6_year 32 = .ok (.iload_n 1, 1) := by decide +kernel
theorem dX6_year_33 : decode cX6_year 33 = .ok (.ishl, 1) := by decide +kernel
theorem dX6_year_34 : decode cX6_year 34 = .ok (.ixor, 1) := by decide +kernel
theorem dX6_year_35 : decode cX6_year 35 = .ok (.iastore, 1) := by decide +kernel
theorem dX6_year_36 : decode cX6_year 36 = .ok (.iconst 0, 1) := by decide +kernel
theorem dX6_year_37 : decode cX6_year 37 = .ok (.istore_n 2, 1) := by decide +kernel
theorem dX6_year_38 : decode cX6_year 38 = .ok (.iload_n 2, 1) := by decide +kernel
theorem dX6_year_39 : decode cX6_year 39 = .ok (.aload_n 0, 1) := by decide +kernel
theorem dX6_year_40 : decode cX6_year 40 = .ok (.getfield 9, 3) := by decide +kernel
theorem dX6_year_43 : decode cX6_year 43 = .ok (.iconst 1, 1) := by decide +kernel
theorem dX6_year_44 : decode cX6_year 44 = .ok (.iaload, 1) := by decide +kernel
theorem dX6_year_45 : decode cX6_year 45 = .ok (.if_icmp .ge 32, 3) := by decide +kernel
theorem dX6_year_48 : decode cX6_year 48 = .ok (.aload_n 0, 1) := by decide +kernel
theorem dX6_year_49 : decode cX6_year 49 = .ok (.iload_n 2, 1) := by decide +kernel
theorem dX6_year_50 : decode cX6_year 50 = .ok (.iconst 4, 1) := by decide +kernel
theorem dX6_year_51 : decode cX6_year 51 = .ok (.invokevirtual 99, 3) := by decide +kernel
theorem dX6_year_54 : decode cX6_year 54 = .ok (.iconst 1, 1) := by decide +kernel
theorem dX6_year_55 : decode cX6_year 55 = .ok (.if_icmp .ne 11, 3) := by decide +kernel
theorem dX6_year_58 : decode cX6_year 58 = .ok (.aload_n 0, 1) := by decide +kernel
theorem dX6_year_59 : decode cX6_year 59 = .ok (.iload_n 2, 1) := by decide +kernel
theorem dX6_year_60 : decode cX6_year 60 = .ok (.invokevirtual 154, 3) := by decide +kernel
theorem dX6_year_63 : decode cX6_year 63 = .ok (.goto 8, 3) := by decide +kernel
theorem dX6_year_66 : decode cX6_year 66 = .ok (.aload_n 0, 1) := by decide +kernel
theorem dX6_year_67 : decode cX6_year 67 = .ok (.iload_n 2, 1) := by decide +kernel
theorem dX6_year_68 : decode cX6_year 68 = .ok (.invokevirtual 157, 3) := by decide +kernel
theorem dX6_year_71 : decode cX6_year 71 = .ok (.iinc 2 1, 3) := by decide +kernel
theorem dX6_year_74 : decode cX6_year 74 = .ok (.goto (-36), 3) := by decide +kernel
theorem dX6_year_77 : decode cX6_year 77 = .ok (.aload_n 0, 1) := by decide +kernel
theorem dX6_year_78 : decode cX6_year 78 = .ok (.getfield 9, 3) := by decide +kernel
theorem dX6_year_81 : decode cX6_year 81 = .ok (.iconst 0, 1) := by decide +kernel
theorem dX6_year_82 : decode cX6_year 82 = .ok (.dup2, 1) := by decide +kernel
theorem dX6_year_83 : decode cX6_year 83 = .ok (.iaload, 1) := by decide +kernel
theorem dX6_year_84 : decode cX6_year 84 = .ok (.iconst 1, 1) := by decide +kernel
theorem dX6_year_85 : decode cX6_year 85 = .ok (.iadd, 1) := by decide +kernel
theorem dX6_year_86 : decode cX6_year 86 = .ok (.iastore, 1) := by decide +kernel
theorem dX6_year_87 : decode cX6_year 87 = .ok (.return_, 1) := by decide +kernel
def bX6_year_71 (fu : Nat) (k38 : mt_St → Int32 → Option (Unit × mt_St)) (σ : mt_St) (x2 : Int32) : Option (Unit × mt_St) :=
  k38 σ (x2 + 1)
set_option maxHeartbeats 4000000 in
set_option maxRecDepth 20000 in
theorem vX6_year_71 {K : mt_C} {fu : Nat} {r : Unit} {σf : mt_St} (hQ : mt_R K none none σf) {k38 : mt_St → Int32 → Option (Unit × mt_St)} (hk38 : ∀ (s0 : mt_St) (x2 : Int32), mt_V K cX6_year RX6 3 4 s0 38 [(0, .ref (mt_adr (kG K) 56)), (2, .int x2)] [] (k38 s0 x2 = some (r, σf))) : ∀ (σ : mt_St) (x2 : Int32), mt_V K cX6_year RX6 3 4 σ 71 [(0, .ref (mt_adr (kG K) 56)), (2, .int x2)] [] (bX6_year_71 fu k38 σ x2 = some (r, σf)) := by
  intro σ x2
  unfold bX6_year_71
  refine mv_iinc (k0 := 1) (v := x2 + 1) (lv' := [(0, .ref (mt_adr (kG K) 56)), (2, .int (x2 + 1))]) [1, 0] dX6_year_71 rfl (mt_inc ic_1) (by decide) rfl ?_
  refine mv_goto 38 dX6_year_74 (by decide) ?_
  exact hk38 σ (x2 + 1)
def bX6_year_38 (fu : Nat) : Nat → mt_St → Int32 → Option (Unit × mt_St)
  | 0, _, _ => none
  | n + 1, σ, x2 =>
    if (σ 57 1) ≤ x2 then
      mt_bnd (mt_up σ 57 0 ((σ 57 0) + (1 : Int32))) fun s1 =>
      some ((), s1)
    else
      mt_ask (fX6_treatyIs fu σ x2 (4 : Int32)) fun r2 =>
      if r2 = (1 : Int32) then
        mt_call (fX6_holds fu σ x2) fun _ s6 =>
        bX6_year_71 fu (fun s0 x2 => bX6_year_38 fu n s0 x2) s6 x2
      else
        mt_call (fX6_waits fu σ x2) fun _ s4 =>
        bX6_year_71 fu (fun s0 x2 => bX6_year_38 fu n s0 x2) s4 x2
set_option maxHeartbeats 4000000 in
set_option maxRecDepth 20000 in
theorem vX6_year_38 {K : mt_C} {fu : Nat} {r : Unit} {σf : mt_St} (hQ : mt_R K none none σf) : ∀ (n : Nat) (σ : mt_St) (x2 : Int32), mt_V K cX6_year RX6 3 4 σ 38 [(0, .ref (mt_adr (kG K) 56)), (2, .int x2)] [] (bX6_year_38 fu n σ x2 = some (r, σf)) := by
  intro n
  induction n with
  | zero => intro σ x2; intro hP; unfold bX6_year_38 at hP; cases hP
  | succ n ih =>
    intro σ x2
    unfold bX6_year_38
    refine mv_iload_n 1 dX6_year_38 rfl rfl ?_
    refine mv_aload_n 0 dX6_year_39 rfl rfl ?_
    refine mg_X6_0 fl_X6_9 dX6_year_40 ?_
    refine mv_iconst (v := 1) dX6_year_43 ic_1 ?_
    refine mv_ialdk 86 1 rfl rfl (by decide) (by decide) dX6_year_44 ?_
    refine mv_icmp_ge 77 dX6_year_45 (by decide) ?_ ?_
    · refine mv_aload_n 0 dX6_year_77 rfl rfl ?_
      refine mg_X6_0 fl_X6_9 dX6_year_78 ?_
      refine mv_iconst (v := 0) dX6_year_81 ic_0 ?_
      refine mv_dup2 dX6_year_82 rfl rfl ?_
      refine mv_ialdk 86 0 rfl rfl (by decide) (by decide) dX6_year_83 ?_
      refine mv_iconst (v := 1) dX6_year_84 ic_1 ?_
      refine mv_iadd dX6_year_85 ?_
      refine mv_iastk 86 0 rfl rfl (by decide) (by decide) dX6_year_86 (fun s1 => ?_)
      exact mv_vret hQ dX6_year_87
    · refine mv_aload_n 0 dX6_year_48 rfl rfl ?_
      refine mv_iload_n 1 dX6_year_49 rfl rfl ?_
      refine mv_iconst (v := 4) dX6_year_50 ic_4 ?_
      refine mv_cVri (As := [.int x2, .int (4 : Int32)]) (st := []) cal_X6_treatyIs ins_X6_treatyIs ml_X6_99 rfl (by decide) rfl rfl (by decide) rfl (Nat.le_of_ble_eq_true rfl) dX6_year_51 (fun r h => co_X6_treatyIs h) (fun r2 => ?_)
      refine mv_iconst (v := 1) dX6_year_54 ic_1 ?_
      refine mv_icmp_ne 66 dX6_year_55 (by decide) ?_ ?_
      · refine mv_aload_n 0 dX6_year_66 rfl rfl ?_
        refine mv_iload_n 1 dX6_year_67 rfl rfl ?_
        refine mv_cVwv (As := [.int x2]) (st := []) cal_X6_waits ins_X6_waits ml_X6_157 rfl (by decide) rfl rfl (by decide) rfl (Nat.le_of_ble_eq_true rfl) dX6_year_68 (fun r s h => co_X6_waits h) (fun r3 s4 => ?_)
        exact vX6_year_71 hQ (fun s0 x2 => ih s0 x2) s4 x2
      · refine mv_aload_n 0 dX6_year_58 rfl rfl ?_
        refine mv_iload_n 1 dX6_year_59 rfl rfl ?_
        refine mv_cVwv (As := [.int x2]) (st := []) cal_X6_holds ins_X6_holds ml_X6_154 rfl (by decide) rfl rfl (by decide) rfl (Nat.le_of_ble_eq_true rfl) dX6_year_60 (fun r s h => co_X6_holds h) (fun r5 s6 => ?_)
        refine mv_goto 71 dX6_year_63 (by decide) ?_
        exact vX6_year_71 hQ (fun s0 x2 => ih s0 x2) s6 x2
def bX6_year_36 (fu : Nat) (σ : mt_St) : Option (Unit × mt_St) :=
  bX6_year_38 fu fu σ (0 : Int32)
set_option maxHeartbeats 4000000 in
set_option maxRecDepth 20000 in
theorem vX6_year_36 {K : mt_C} {fu : Nat} {r : Unit} {σf : mt_St} (hQ : mt_R K none none σf) : ∀ (σ : mt_St), mt_V K cX6_year RX6 3 4 σ 36 [(0, .ref (mt_adr (kG K) 56))] [] (bX6_year_36 fu σ = some (r, σf)) := by
  intro σ
  unfold bX6_year_36
  refine mv_iconst (v := 0) dX6_year_36 ic_0 ?_
  refine mv_istore_n (lv' := [(0, .ref (mt_adr (kG K) 56)), (2, .int (0 : Int32))]) [1, 0] dX6_year_37 rfl (by decide) rfl ?_
  exact vX6_year_38 hQ fu σ (0 : Int32)
def fX6_year (fu : Nat) (σ : mt_St) : Option (Unit × mt_St) :=
  mt_chk (mt_in ((6 : Int32) + ((σ 57 0) - (σ 57 0) / (6 : Int32) * (6 : Int32))) 86) <|
  if (12 : Int32) ≤ (σ 57 (Int32.toNatClampNeg ((6 : Int32) + ((σ 57 0) - (σ 57 0) / (6 : Int32) * (6 : Int32))))) then
    bX6_year_36 fu σ
  else
    mt_bnd (mt_up σ 57 5 ((σ 57 5) ^^^ ((1 : Int32) <<< ((σ 57 (Int32.toNatClampNeg ((6 : Int32) + ((σ 57 0) - (σ 57 0) / (6 : Int32) * (6 : Int32))))) &&& 31)))) fun s1 =>
    bX6_year_36 fu s1
set_option maxHeartbeats 4000000 in
set_option maxRecDepth 20000 in
theorem vX6_year {K : mt_C} {fu : Nat} {σ : mt_St} {r : Unit} {σf : mt_St} (hQ : mt_R K none none σf) : mt_V K cX6_year RX6 3 4 σ 0 [(0, .ref (mt_adr (kG K) 56))] [] (fX6_year fu σ = some (r, σf)) := by
  unfold fX6_year
  refine mv_aload_n 0 dX6_year_0 rfl rfl ?_
  refine mg_X6_0 fl_X6_9 dX6_year_1 ?_
  refine mv_bipush (v := 6) dX6_year_4 bp_6 ?_
  refine mv_aload_n 0 dX6_year_6 rfl rfl ?_
  refine mg_X6_0 fl_X6_9 dX6_year_7 ?_
  refine mv_iconst (v := 0) dX6_year_10 ic_0 ?_
  refine mv_ialdk 86 0 rfl rfl (by decide) (by decide) dX6_year_11 ?_
  refine mv_bipush (v := 6) dX6_year_12 bp_6 ?_
  refine mv_irem dX6_year_14 (by decide) ?_
  refine mv_iadd dX6_year_15 ?_
  refine mv_iald 86 rfl rfl dX6_year_16 ?_
  refine mv_istore_n (lv' := [(0, .ref (mt_adr (kG K) 56)), (1, .int (σ 57 (Int32.toNatClampNeg ((6 : Int32) + ((σ 57 0) - (σ 57 0) / (6 : Int32) * (6 : Int32))))))]) [1, 0] dX6_year_17 rfl (by decide) rfl ?_
  refine mv_iload_n 1 dX6_year_18 rfl rfl ?_
  refine mv_bipush (v := 12) dX6_year_19 bp_12 ?_
  refine mv_icmp_ge 36 dX6_year_21 (by decide) ?_ ?_
  · refine mv_sub (lv' := [(0, .ref (mt_adr (kG K) 56))]) [0] rfl ?_
    exact vX6_year_36 hQ σ
  · refine mv_aload_n 0 dX6_year_24 rfl rfl ?_
    refine mg_X6_0 fl_X6_9 dX6_year_25 ?_
    refine mv_iconst (v := 5) dX6_year_28 ic_5 ?_
    refine mv_dup2 dX6_year_29 rfl rfl ?_
    refine mv_ialdk 86 5 rfl rfl (by decide) (by decide) dX6_year_30 ?_
    refine mv_iconst (v := 1) dX6_year_31 ic_1 ?_
    refine mv_iload_n 1 dX6_year_32 rfl rfl ?_
    refine mv_ishl dX6_year_33 ?_
    refine mv_ixor dX6_year_34 ?_
    refine mv_iastk 86 5 rfl rfl (by decide) (by decide) dX6_year_35 (fun s1 => ?_)
    refine mv_sub (lv' := [(0, .ref (mt_adr (kG K) 56))]) [0] rfl ?_
    exact vX6_year_36 hQ s1
theorem co_X6_year {l : Launch} {G : mt_G} {fu : Nat} {σ : mt_St} {r : Unit} {σf : mt_St}  (h : fX6_year fu σ = some (r, σf)) : mt_Con l G yX6_year cX6_year 3 none 4 [.ref (mt_adr G 56)] σ none σf :=
  mt_con (by decide) (Nat.le_of_ble_eq_true rfl) (fun K hl hG hQ => by subst hl; subst hG; exact fun _ => vX6_year  hQ h)
theorem dX6_yearsGo_0 : decode cX6_yearsGo 0 = .ok (.iconst 0, 1) := by decide +kernel
theorem dX6_yearsGo_1 : decode cX6_yearsGo 1 = .ok (.istore_n 2, 1) := by decide +kernel
theorem dX6_yearsGo_2 : decode cX6_yearsGo 2 = .ok (.iload_n 2, 1) := by decide +kernel
theorem dX6_yearsGo_3 : decode cX6_yearsGo 3 = .ok (.iload_n 1, 1) := by decide +kernel
theorem dX6_yearsGo_4 : decode cX6_yearsGo 4 = .ok (.if_icmp .ge 13, 3) := by decide +kernel
theorem dX6_yearsGo_7 : decode cX6_yearsGo 7 = .ok (.aload_n 0, 1) := by decide +kernel
theorem dX6_yearsGo_8 : decode cX6_yearsGo 8 = .ok (.invokevirtual 160, 3) := by decide +kernel
theorem dX6_yearsGo_11 : decode cX6_yearsGo 11 = .ok (.iinc 2 1, 3) := by decide +kernel
theorem dX6_yearsGo_14 : decode cX6_yearsGo 14 = .ok (.goto (-12), 3) := by decide +kernel
theorem dX6_yearsGo_17 : decode cX6_yearsGo 17 = .ok (.return_, 1) := by decide +kernel
def bX6_yearsGo_2 (fu : Nat) : Nat → mt_St → Int32 → Int32 → Option (Unit × mt_St)
  | 0, _, _, _ => none
  | n + 1, σ, x1, x2 =>
    if x1 ≤ x2 then
      some ((), σ)
    else
      mt_call (fX6_year fu σ) fun _ s2 =>
      bX6_yearsGo_2 fu n s2 x1 (x2 + 1)
set_option maxHeartbeats 4000000 in
set_option maxRecDepth 20000 in
theorem vX6_yearsGo_2 {K : mt_C} {fu : Nat} {r : Unit} {σf : mt_St} (hQ : mt_R K none none σf) : ∀ (n : Nat) (σ : mt_St) (x1 : Int32) (x2 : Int32), mt_V K cX6_yearsGo RX6 3 5 σ 2 [(0, .ref (mt_adr (kG K) 56)), (1, .int x1), (2, .int x2)] [] (bX6_yearsGo_2 fu n σ x1 x2 = some (r, σf)) := by
  intro n
  induction n with
  | zero => intro σ x1 x2; intro hP; unfold bX6_yearsGo_2 at hP; cases hP
  | succ n ih =>
    intro σ x1 x2
    unfold bX6_yearsGo_2
    refine mv_iload_n 2 dX6_yearsGo_2 rfl rfl ?_
    refine mv_iload_n 1 dX6_yearsGo_3 rfl rfl ?_
    refine mv_icmp_ge 17 dX6_yearsGo_4 (by decide) ?_ ?_
    · exact mv_vret hQ dX6_yearsGo_17
    · refine mv_aload_n 0 dX6_yearsGo_7 rfl rfl ?_
      refine mv_cVwv (As := []) (st := []) cal_X6_year ins_X6_year ml_X6_160 rfl (by decide) rfl rfl (by decide) rfl (Nat.le_of_ble_eq_true rfl) dX6_yearsGo_8 (fun r s h => co_X6_year h) (fun r1 s2 => ?_)
      refine mv_iinc (k0 := 2) (v := x2 + 1) (lv' := [(0, .ref (mt_adr (kG K) 56)), (1, .int x1), (2, .int (x2 + 1))]) [1, 2, 0] dX6_yearsGo_11 rfl (mt_inc ic_1) (by decide) rfl ?_
      refine mv_goto 2 dX6_yearsGo_14 (by decide) ?_
      exact ih s2 x1 (x2 + 1)
def fX6_yearsGo (fu : Nat) (σ : mt_St) (a1 : Int32) : Option (Unit × mt_St) :=
  bX6_yearsGo_2 fu fu σ a1 (0 : Int32)
set_option maxHeartbeats 4000000 in
set_option maxRecDepth 20000 in
theorem vX6_yearsGo {K : mt_C} {fu : Nat} {σ : mt_St} {a1 : Int32} {r : Unit} {σf : mt_St} (hQ : mt_R K none none σf) : mt_V K cX6_yearsGo RX6 3 5 σ 0 [(0, .ref (mt_adr (kG K) 56)), (1, .int a1)] [] (fX6_yearsGo fu σ a1 = some (r, σf)) := by
  unfold fX6_yearsGo
  refine mv_iconst (v := 0) dX6_yearsGo_0 ic_0 ?_
  refine mv_istore_n (lv' := [(0, .ref (mt_adr (kG K) 56)), (1, .int a1), (2, .int (0 : Int32))]) [1, 2, 0] dX6_yearsGo_1 rfl (by decide) rfl ?_
  exact vX6_yearsGo_2 hQ fu σ a1 (0 : Int32)
theorem co_X6_yearsGo {l : Launch} {G : mt_G} {fu : Nat} {σ : mt_St} {a1 : Int32} {r : Unit} {σf : mt_St}  (h : fX6_yearsGo fu σ a1 = some (r, σf)) : mt_Con l G yX6_yearsGo cX6_yearsGo 3 none 5 [.ref (mt_adr G 56), .int a1] σ none σf :=
  mt_con (by decide) (Nat.le_of_ble_eq_true rfl) (fun K hl hG hQ => by subst hl; subst hG; exact fun _ => vX6_yearsGo  hQ h)
theorem dX6_sumOf_0 : decode cX6_sumOf 0 = .ok (.iconst 0, 1) := by decide +kernel
theorem dX6_sumOf_1 : decode cX6_sumOf 1 = .ok (.istore_n 2, 1) := by decide +kernel
theorem dX6_sumOf_2 : decode cX6_sumOf 2 = .ok (.iconst 0, 1) := by decide +kernel
theorem dX6_sumOf_3 : decode cX6_sumOf 3 = .ok (.istore_n 3, 1) := by decide +kernel
theorem dX6_sumOf_4 : decode cX6_sumOf 4 = .ok (.iload_n 3, 1) := by decide +kernel
theorem dX6_sumOf_5 : decode cX6_sumOf 5 = .ok (.aload_n 0, 1) := by decide +kernel
theorem dX6_sumOf_6 : decode cX6_sumOf 6 = .ok (.getfield 9, 3) := by decide +kernel
theorem dX6_sumOf_9 : decode cX6_sumOf 9 = .ok (.iconst 1, 1) := by decide +kernel
theorem dX6_sumOf_10 : decode cX6_sumOf 10 = .ok (.iaload, 1) := by decide +kernel
theorem dX6_sumOf_11 : decode cX6_sumOf 11 = .ok (.if_icmp .ge 18, 3) := by decide +kernel
theorem dX6_sumOf_14 : decode cX6_sumOf 14 = .ok (.iload_n 2, 1) := by decide +kernel
theorem dX6_sumOf_15 : decode cX6_sumOf 15 = .ok (.aload_n 0, 1) := by decide +kernel
theorem dX6_sumOf_16 : decode cX6_sumOf 16 = .ok (.iload_n 3, 1) := by decide +kernel
theorem dX6_sumOf_17 : decode cX6_sumOf 17 = .ok (.iload_n 1, 1) := by decide +kernel
theorem dX6_sumOf_18 : decode cX6_sumOf 18 = .ok (.invokevirtual 99, 3) := by decide +kernel
theorem dX6_sumOf_21 : decode cX6_sumOf 21 = .ok (.iadd, 1) := by decide +kernel
theorem dX6_sumOf_22 : decode cX6_sumOf 22 = .ok (.istore_n 2, 1) := by decide +kernel
theorem dX6_sumOf_23 : decode cX6_sumOf 23 = .ok (.iinc 3 1, 3) := by decide +kernel
theorem dX6_sumOf_26 : decode cX6_sumOf 26 = .ok (.goto (-22), 3) := by decide +kernel
theorem dX6_sumOf_29 : decode cX6_sumOf 29 = .ok (.iload_n 2, 1) := by decide +kernel
theorem dX6_sumOf_30 : decode cX6_sumOf 30 = .ok (.ireturn, 1) := by decide +kernel
def bX6_sumOf_4 (fu : Nat) (σ : mt_St) : Nat → Int32 → Int32 → Int32 → Option Int32
  | 0, _, _, _ => none
  | n + 1, x1, x2, x3 =>
    if (σ 57 1) ≤ x3 then
      some x2
    else
      mt_ask (fX6_treatyIs fu σ x3 x1) fun r1 =>
      bX6_sumOf_4 fu σ n x1 (x2 + r1) (x3 + 1)
set_option maxHeartbeats 4000000 in
set_option maxRecDepth 20000 in
theorem vX6_sumOf_4 {K : mt_C} {fu : Nat} {σ : mt_St} {r : Int32} (hQ : mt_R K (some .int) (some (.int r)) σ) : ∀ (n : Nat) (x1 : Int32) (x2 : Int32) (x3 : Int32), mt_V K cX6_sumOf RX6 4 2 σ 4 [(0, .ref (mt_adr (kG K) 56)), (1, .int x1), (2, .int x2), (3, .int x3)] [] (bX6_sumOf_4 fu σ n x1 x2 x3 = some r) := by
  intro n
  induction n with
  | zero => intro x1 x2 x3; intro hP; unfold bX6_sumOf_4 at hP; cases hP
  | succ n ih =>
    intro x1 x2 x3
    unfold bX6_sumOf_4
    refine mv_iload_n 3 dX6_sumOf_4 rfl rfl ?_
    refine mv_aload_n 0 dX6_sumOf_5 rfl rfl ?_
    refine mg_X6_0 fl_X6_9 dX6_sumOf_6 ?_
    refine mv_iconst (v := 1) dX6_sumOf_9 ic_1 ?_
    refine mv_ialdk 86 1 rfl rfl (by decide) (by decide) dX6_sumOf_10 ?_
    refine mv_icmp_ge 29 dX6_sumOf_11 (by decide) ?_ ?_
    · refine mv_iload_n 2 dX6_sumOf_29 rfl rfl ?_
      exact mv_iretr hQ dX6_sumOf_30
    · refine mv_iload_n 2 dX6_sumOf_14 rfl rfl ?_
      refine mv_aload_n 0 dX6_sumOf_15 rfl rfl ?_
      refine mv_iload_n 3 dX6_sumOf_16 rfl rfl ?_
      refine mv_iload_n 1 dX6_sumOf_17 rfl rfl ?_
      refine mv_cVri (As := [.int x3, .int x1]) (st := [.int x2]) cal_X6_treatyIs ins_X6_treatyIs ml_X6_99 rfl (by decide) rfl rfl (by decide) rfl (Nat.le_of_ble_eq_true rfl) dX6_sumOf_18 (fun r h => co_X6_treatyIs h) (fun r1 => ?_)
      refine mv_iadd dX6_sumOf_21 ?_
      refine mv_istore_n (lv' := [(0, .ref (mt_adr (kG K) 56)), (1, .int x1), (2, .int (x2 + r1)), (3, .int x3)]) [1, 2, 0, 3] dX6_sumOf_22 rfl (by decide) rfl ?_
      refine mv_iinc (k0 := 3) (v := x3 + 1) (lv' := [(0, .ref (mt_adr (kG K) 56)), (1, .int x1), (2, .int (x2 + r1)), (3, .int (x3 + 1))]) [1, 2, 3, 0] dX6_sumOf_23 rfl (mt_inc ic_1) (by decide) rfl ?_
      refine mv_goto 4 dX6_sumOf_26 (by decide) ?_
      exact ih x1 (x2 + r1) (x3 + 1)
def fX6_sumOf (fu : Nat) (σ : mt_St) (a1 : Int32) : Option Int32 :=
  bX6_sumOf_4 fu σ fu a1 (0 : Int32) (0 : Int32)
set_option maxHeartbeats 4000000 in
set_option maxRecDepth 20000 in
theorem vX6_sumOf {K : mt_C} {fu : Nat} {σ : mt_St} {a1 : Int32} {r : Int32} (hQ : mt_R K (some .int) (some (.int r)) σ) : mt_V K cX6_sumOf RX6 4 2 σ 0 [(0, .ref (mt_adr (kG K) 56)), (1, .int a1)] [] (fX6_sumOf fu σ a1 = some r) := by
  unfold fX6_sumOf
  refine mv_iconst (v := 0) dX6_sumOf_0 ic_0 ?_
  refine mv_istore_n (lv' := [(0, .ref (mt_adr (kG K) 56)), (1, .int a1), (2, .int (0 : Int32))]) [1, 2, 0] dX6_sumOf_1 rfl (by decide) rfl ?_
  refine mv_iconst (v := 0) dX6_sumOf_2 ic_0 ?_
  refine mv_istore_n (lv' := [(0, .ref (mt_adr (kG K) 56)), (1, .int a1), (2, .int (0 : Int32)), (3, .int (0 : Int32))]) [1, 2, 3, 0] dX6_sumOf_3 rfl (by decide) rfl ?_
  exact vX6_sumOf_4 hQ fu a1 (0 : Int32) (0 : Int32)
theorem co_X6_sumOf {l : Launch} {G : mt_G} {fu : Nat} {σ : mt_St} {a1 : Int32} {r : Int32}  (h : fX6_sumOf fu σ a1 = some r) : mt_Con l G yX6_sumOf cX6_sumOf 4 (some .int) 2 [.ref (mt_adr G 56), .int a1] σ (some (.int r)) σ :=
  mt_con (by decide) (Nat.le_of_ble_eq_true rfl) (fun K hl hG hQ => by subst hl; subst hG; exact fun _ => vX6_sumOf  hQ h)
theorem dX6_inForce_0 : decode cX6_inForce 0 = .ok (.iconst 0, 1) := by decide +kernel
theorem dX6_inForce_1 : decode cX6_inForce 1 = .ok (.istore_n 1, 1) := by decide +kernel
theorem dX6_inForce_2 : decode cX6_inForce 2 = .ok (.iconst 0, 1) := by decide +kernel
theorem dX6_inForce_3 : decode cX6_inForce 3 = .ok (.istore_n 2, 1) := by decide +kernel
theorem dX6_inForce_4 : decode cX6_inForce 4 = .ok (.iload_n 2, 1) := by decide +kernel
theorem dX6_inForce_5 : decode cX6_inForce 5 = .ok (.aload_n 0, 1) := by decide +kernel
theorem dX6_inForce_6 : decode cX6_inForce 6 = .ok (.getfield 9, 3) := by decide +kernel
theorem dX6_inForce_9 : decode cX6_inForce 9 = .ok (.iconst 1, 1) := by decide +kernel
theorem dX6_inForce_10 : decode cX6_inForce 10 = .ok (.iaload, 1) := by decide +kernel
theorem dX6_inForce_11 : decode cX6_inForce 11 = .ok (.if_icmp .ge 20, 3) := by decide +kernel
theorem dX6_inForce_14 : decode cX6_inForce 14 = .ok (.iload_n 1, 1) := by decide +kernel
theorem dX6_inForce_15 : decode cX6_inForce 15 = .ok (.aload_n 0, 1) := by decide +kernel
theorem dX6_inForce_16 : decode cX6_inForce 16 = .ok (.iload_n 2, 1) := by decide +kernel
theorem dX6_inForce_17 : decode cX6_inForce 17 = .ok (.iconst 4, 1) := by decide +kernel
theorem dX6_inForce_18 : decode cX6_inForce 18 = .ok (.invokevirtual 99, 3) := by decide +kernel
theorem dX6_inForce_21 : decode cX6_inForce 21 = .ok (.iload_n 2, 1) := by decide +kernel
theorem dX6_inForce_22 : decode cX6_inForce 22 = .ok (.ishl, 1) := by decide +kernel
theorem dX6_inForce_23 : decode cX6_inForce 23 = .ok (.ior, 1) := by decide +kernel
theorem dX6_inForce_24 : decode cX6_inForce 24 = .ok (.istore_n 1, 1) := by decide +kernel
theorem dX6_inForce_25 : decode cX6_inForce 25 = .ok (.iinc 2 1, 3) := by decide +kernel
theorem dX6_inForce_28 : decode cX6_inForce 28 = .ok (.goto (-24), 3) := by decide +kernel
theorem dX6_inForce_31 : decode cX6_inForce 31 = .ok (.iload_n 1, 1) := by decide +kernel
theorem dX6_inForce_32 : decode cX6_inForce 32 = .ok (.ireturn, 1) := by decide +kernel
def bX6_inForce_4 (fu : Nat) (σ : mt_St) : Nat → Int32 → Int32 → Option Int32
  | 0, _, _ => none
  | n + 1, x1, x2 =>
    if (σ 57 1) ≤ x2 then
      some x1
    else
      mt_ask (fX6_treatyIs fu σ x2 (4 : Int32)) fun r1 =>
      bX6_inForce_4 fu σ n (x1 ||| (r1 <<< (x2 &&& 31))) (x2 + 1)
set_option maxHeartbeats 4000000 in
set_option maxRecDepth 20000 in
theorem vX6_inForce_4 {K : mt_C} {fu : Nat} {σ : mt_St} {r : Int32} (hQ : mt_R K (some .int) (some (.int r)) σ) : ∀ (n : Nat) (x1 : Int32) (x2 : Int32), mt_V K cX6_inForce RX6 3 2 σ 4 [(0, .ref (mt_adr (kG K) 56)), (1, .int x1), (2, .int x2)] [] (bX6_inForce_4 fu σ n x1 x2 = some r) := by
  intro n
  induction n with
  | zero => intro x1 x2; intro hP; unfold bX6_inForce_4 at hP; cases hP
  | succ n ih =>
    intro x1 x2
    unfold bX6_inForce_4
    refine mv_iload_n 2 dX6_inForce_4 rfl rfl ?_
    refine mv_aload_n 0 dX6_inForce_5 rfl rfl ?_
    refine mg_X6_0 fl_X6_9 dX6_inForce_6 ?_
    refine mv_iconst (v := 1) dX6_inForce_9 ic_1 ?_
    refine mv_ialdk 86 1 rfl rfl (by decide) (by decide) dX6_inForce_10 ?_
    refine mv_icmp_ge 31 dX6_inForce_11 (by decide) ?_ ?_
    · refine mv_iload_n 1 dX6_inForce_31 rfl rfl ?_
      exact mv_iretr hQ dX6_inForce_32
    · refine mv_iload_n 1 dX6_inForce_14 rfl rfl ?_
      refine mv_aload_n 0 dX6_inForce_15 rfl rfl ?_
      refine mv_iload_n 2 dX6_inForce_16 rfl rfl ?_
      refine mv_iconst (v := 4) dX6_inForce_17 ic_4 ?_
      refine mv_cVri (As := [.int x2, .int (4 : Int32)]) (st := [.int x1]) cal_X6_treatyIs ins_X6_treatyIs ml_X6_99 rfl (by decide) rfl rfl (by decide) rfl (Nat.le_of_ble_eq_true rfl) dX6_inForce_18 (fun r h => co_X6_treatyIs h) (fun r1 => ?_)
      refine mv_iload_n 2 dX6_inForce_21 rfl rfl ?_
      refine mv_ishl dX6_inForce_22 ?_
      refine mv_ior dX6_inForce_23 ?_
      refine mv_istore_n (lv' := [(0, .ref (mt_adr (kG K) 56)), (1, .int (x1 ||| (r1 <<< (x2 &&& 31)))), (2, .int x2)]) [1, 0, 2] dX6_inForce_24 rfl (by decide) rfl ?_
      refine mv_iinc (k0 := 2) (v := x2 + 1) (lv' := [(0, .ref (mt_adr (kG K) 56)), (1, .int (x1 ||| (r1 <<< (x2 &&& 31)))), (2, .int (x2 + 1))]) [1, 2, 0] dX6_inForce_25 rfl (mt_inc ic_1) (by decide) rfl ?_
      refine mv_goto 4 dX6_inForce_28 (by decide) ?_
      exact ih (x1 ||| (r1 <<< (x2 &&& 31))) (x2 + 1)
def fX6_inForce (fu : Nat) (σ : mt_St) : Option Int32 :=
  bX6_inForce_4 fu σ fu (0 : Int32) (0 : Int32)
set_option maxHeartbeats 4000000 in
set_option maxRecDepth 20000 in
theorem vX6_inForce {K : mt_C} {fu : Nat} {σ : mt_St} {r : Int32} (hQ : mt_R K (some .int) (some (.int r)) σ) : mt_V K cX6_inForce RX6 3 2 σ 0 [(0, .ref (mt_adr (kG K) 56))] [] (fX6_inForce fu σ = some r) := by
  unfold fX6_inForce
  refine mv_iconst (v := 0) dX6_inForce_0 ic_0 ?_
  refine mv_istore_n (lv' := [(0, .ref (mt_adr (kG K) 56)), (1, .int (0 : Int32))]) [1, 0] dX6_inForce_1 rfl (by decide) rfl ?_
  refine mv_iconst (v := 0) dX6_inForce_2 ic_0 ?_
  refine mv_istore_n (lv' := [(0, .ref (mt_adr (kG K) 56)), (1, .int (0 : Int32)), (2, .int (0 : Int32))]) [1, 2, 0] dX6_inForce_3 rfl (by decide) rfl ?_
  exact vX6_inForce_4 hQ fu (0 : Int32) (0 : Int32)
theorem co_X6_inForce {l : Launch} {G : mt_G} {fu : Nat} {σ : mt_St} {r : Int32}  (h : fX6_inForce fu σ = some r) : mt_Con l G yX6_inForce cX6_inForce 3 (some .int) 2 [.ref (mt_adr G 56)] σ (some (.int r)) σ :=
  mt_con (by decide) (Nat.le_of_ble_eq_true rfl) (fun K hl hG hQ => by subst hl; subst hG; exact fun _ => vX6_inForce  hQ h)
theorem dX6_go_0 : decode cX6_go 0 = .ok (.iload_n 1, 1) := by decide +kernel
theorem dX6_go_1 : decode cX6_go 1 = .ok (.iconst 1, 1) := by decide +kernel
theorem dX6_go_2 : decode cX6_go 2 = .ok (.bipush 60, 2) := by decide +kernel
theorem dX6_go_4 : decode cX6_go 4 = .ok (.invokestatic 70, 3) := by decide +kernel
theorem dX6_go_7 : decode cX6_go 7 = .ok (.ifCond .ne 10, 3) := by decide +kernel
theorem dX6_go_10 : decode cX6_go 10 = .ok (.aload_n 0, 1) := by decide +kernel
theorem dX6_go_11 : decode cX6_go 11 = .ok (.ldc 60, 2) := by decide +kernel
theorem dX6_go_13 : decode cX6_go 13 = .ok (.invokevirtual 66, 3) := by decide +kernel
theorem dX6_go_16 : decode cX6_go 16 = .ok (.ireturn, 1) := by decide +kernel
theorem dX6_go_17 : decode cX6_go 17 = .ok (.aload_n 0, 1) := by decide +kernel
theorem dX6_go_18 : decode cX6_go 18 = .ok (.getfield 9, 3) := by decide +kernel
theorem dX6_go_21 : decode cX6_go 21 = .ok (.iconst 0, 1) := by decide +kernel
theorem dX6_go_22 : decode cX6_go 22 = .ok (.iaload, 1) := by decide +kernel
theorem dX6_go_23 : decode cX6_go 23 = .ok (.iload_n 1, 1) := by decide +kernel
theorem dX6_go_24 : decode cX6_go 24 = .ok (.iadd, 1) := by decide +kernel
theorem dX6_go_25 : decode cX6_go 25 = .ok (.ldc 149, 2) := by decide +kernel
theorem dX6_go_27 : decode cX6_go 27 = .ok (.if_icmp .le 10, 3) := by decide +kernel
theorem dX6_go_30 : decode cX6_go 30 = .ok (.aload_n 0, 1) := by decide +kernel
theorem dX6_go_31 : decode cX6_go 31 = .ok (.ldc 163, 2) := by decide +kernel
theorem dX6_go_33 : decode cX6_go 33 = .ok (.invokevirtual 66, 3) := by decide +kernel
theorem dX6_go_36 : decode cX6_go 36 = .ok (.ireturn, 1) := by decide +kernel
theorem dX6_go_37 : decode cX6_go 37 = .ok (.aload_n 0, 1) := by decide +kernel
theorem dX6_go_38 : decode cX6_go 38 = .ok (.iload_n 1, 1) := by decide +kernel
theorem dX6_go_39 : decode cX6_go 39 = .ok (.invokevirtual 164, 3) := by decide +kernel
theorem dX6_go_42 : decode cX6_go 42 = .ok (.aload_n 0, 1) := by decide +kernel
theorem dX6_go_43 : decode cX6_go 43 = .ok (.invokevirtual 167, 3) := by decide +kernel
theorem dX6_go_46 : decode cX6_go 46 = .ok (.ireturn, 1) := by decide +kernel
def fX6_go (fu : Nat) (σ : mt_St) (a1 : Int32) : Option (Int32 × mt_St) :=
  mt_ask (fX6_within fu a1 (1 : Int32) (60 : Int32)) fun r1 =>
  if r1 = 0 then
    mt_call (fX6_finding fu σ (-1000001 : Int32)) fun r7 s8 =>
    some (r7, s8)
  else
    if ((σ 57 0) + a1) ≤ (99999 : Int32) then
      mt_call (fX6_yearsGo fu σ a1) fun _ s3 =>
      mt_ask (fX6_inForce fu s3) fun r4 =>
      some (r4, s3)
    else
      mt_call (fX6_finding fu σ (-1000005 : Int32)) fun r5 s6 =>
      some (r5, s6)
set_option maxHeartbeats 4000000 in
set_option maxRecDepth 20000 in
theorem vX6_go {K : mt_C} {fu : Nat} {σ : mt_St} {a1 : Int32} {r : Int32} {σf : mt_St} (hQ : mt_R K (some .int) (some (.int r)) σf) : mt_V K cX6_go RX6 2 6 σ 0 [(0, .ref (mt_adr (kG K) 56)), (1, .int a1)] [] (fX6_go fu σ a1 = some (r, σf)) := by
  unfold fX6_go
  refine mv_iload_n 1 dX6_go_0 rfl rfl ?_
  refine mv_iconst (v := 1) dX6_go_1 ic_1 ?_
  refine mv_bipush (v := 60) dX6_go_2 bp_60 ?_
  refine mv_cSri (As := [.int a1, .int (1 : Int32), .int (60 : Int32)]) (st := []) cal_X6_within sta_X6_within ml_X6_70 rfl (by decide) rfl (Nat.le_of_ble_eq_true rfl) dX6_go_4 (fun r h => co_X6_within h) (fun r1 => ?_)
  refine mv_if_ne 17 dX6_go_7 (by decide) ?_ ?_
  · refine mv_aload_n 0 dX6_go_17 rfl rfl ?_
    refine mg_X6_0 fl_X6_9 dX6_go_18 ?_
    refine mv_iconst (v := 0) dX6_go_21 ic_0 ?_
    refine mv_ialdk 86 0 rfl rfl (by decide) (by decide) dX6_go_22 ?_
    refine mv_iload_n 1 dX6_go_23 rfl rfl ?_
    refine mv_iadd dX6_go_24 ?_
    refine mv_ldc kc_X6_149 dX6_go_25 ?_
    refine mv_icmp_le 37 dX6_go_27 (by decide) ?_ ?_
    · refine mv_aload_n 0 dX6_go_37 rfl rfl ?_
      refine mv_iload_n 1 dX6_go_38 rfl rfl ?_
      refine mv_cVwv (As := [.int a1]) (st := []) cal_X6_yearsGo ins_X6_yearsGo ml_X6_164 rfl (by decide) rfl rfl (by decide) rfl (Nat.le_of_ble_eq_true rfl) dX6_go_39 (fun r s h => co_X6_yearsGo h) (fun r2 s3 => ?_)
      refine mv_aload_n 0 dX6_go_42 rfl rfl ?_
      refine mv_cVri (As := []) (st := []) cal_X6_inForce ins_X6_inForce ml_X6_167 rfl (by decide) rfl rfl (by decide) rfl (Nat.le_of_ble_eq_true rfl) dX6_go_43 (fun r h => co_X6_inForce h) (fun r4 => ?_)
      exact mv_iret hQ dX6_go_46
    · refine mv_aload_n 0 dX6_go_30 rfl rfl ?_
      refine mv_ldc kc_X6_163 dX6_go_31 ?_
      refine mv_cVwi (As := [.int (-1000005 : Int32)]) (st := []) cal_X6_finding ins_X6_finding ml_X6_66 rfl (by decide) rfl rfl (by decide) rfl (Nat.le_of_ble_eq_true rfl) dX6_go_33 (fun r s h => co_X6_finding h) (fun r5 s6 => ?_)
      exact mv_iret hQ dX6_go_36
  · refine mv_aload_n 0 dX6_go_10 rfl rfl ?_
    refine mv_ldc kc_X6_60 dX6_go_11 ?_
    refine mv_cVwi (As := [.int (-1000001 : Int32)]) (st := []) cal_X6_finding ins_X6_finding ml_X6_66 rfl (by decide) rfl rfl (by decide) rfl (Nat.le_of_ble_eq_true rfl) dX6_go_13 (fun r s h => co_X6_finding h) (fun r7 s8 => ?_)
    exact mv_iret hQ dX6_go_16
theorem co_X6_go {l : Launch} {G : mt_G} {fu : Nat} {σ : mt_St} {a1 : Int32} {r : Int32} {σf : mt_St}  (h : fX6_go fu σ a1 = some (r, σf)) : mt_Con l G yX6_go cX6_go 2 (some .int) 6 [.ref (mt_adr G 56), .int a1] σ (some (.int r)) σf :=
  mt_con (by decide) (Nat.le_of_ble_eq_true rfl) (fun K hl hG hQ => by subst hl; subst hG; exact fun _ => vX6_go  hQ h)
theorem dX6_wouldBreak_0 : decode cX6_wouldBreak 0 = .ok (.iconst 0, 1) := by decide +kernel
theorem dX6_wouldBreak_1 : decode cX6_wouldBreak 1 = .ok (.istore_n 1, 1) := by decide +kernel
theorem dX6_wouldBreak_2 : decode cX6_wouldBreak 2 = .ok (.iconst 0, 1) := by decide +kernel
theorem dX6_wouldBreak_3 : decode cX6_wouldBreak 3 = .ok (.istore_n 2, 1) := by decide +kernel
theorem dX6_wouldBreak_4 : decode cX6_wouldBreak 4 = .ok (.iload_n 2, 1) := by decide +kernel
theorem dX6_wouldBreak_5 : decode cX6_wouldBreak 5 = .ok (.aload_n 0, 1) := by decide +kernel
theorem dX6_wouldBreak_6 : decode cX6_wouldBreak 6 = .ok (.getfield 9, 3) := by decide +kernel
theorem dX6_wouldBreak_9 : decode cX6_wouldBreak 9 = .ok (.iconst 1, 1) := by decide +kernel
theorem dX6_wouldBreak_10 : decode cX6_wouldBreak 10 = .ok (.iaload, 1) := by decide +kernel
theorem dX6_wouldBreak_11 : decode cX6_wouldBreak 11 = .ok (.if_icmp .ge 42, 3) := by decide +kernel
theorem dX6_wouldBreak_14 : decode cX6_wouldBreak 14 = .ok (.iload_n 1, 1) := by decide +kernel
theorem dX6_wouldBreak_15 : decode cX6_wouldBreak 15 = .ok (.aload_n 0, 1) := by decide +kernel
theorem dX6_wouldBreak_16 : decode cX6_wouldBreak 16 = .ok (.iload_n 2, 1) := by decide +kernel
theorem dX6_wouldBreak_17 : decode cX6_wouldBreak 17 = .ok (.iconst 4, 1) := by decide +kernel
theorem dX6_wouldBreak_18 : decode cX6_wouldBreak 18 = .ok (.invokevirtual 99, 3) := by decide +kernel
theorem dX6_wouldBreak_21 : decode cX6_wouldBreak 21 = .ok (.iconst 1, 1) := by decide +kernel
theorem dX6_wouldBreak_22 : decode cX6_wouldBreak 22 = .ok (.if_icmp .ne 22, 3) := by decide +kernel
theorem dX6_wouldBreak_25 : decode cX6_wouldBreak 25 = .ok (.aload_n 0, 1) := by decide +kernel
theorem dX6_wouldBreak_26 : decode cX6_wouldBreak 26 = .ok (.iload_n 2, 1) := by decide +kernel
theorem dX6_wouldBreak_27 : decode cX6_wouldBreak 27 = .ok (.invokevirtual 117, 3) := by decide +kernel
theorem dX6_wouldBreak_30 : decode cX6_wouldBreak 30 = .ok (.aload_n 0, 1) := by decide +kernel
theorem dX6_wouldBreak_31 : decode cX6_wouldBreak 31 = .ok (.iload_n 2, 1) := by decide +kernel
theorem dX6_wouldBreak_32 : decode cX6_wouldBreak 32 = .ok (.invokevirtual 105, 3) := by decide +kernel
theorem dX6_wouldBreak_35 : decode cX6_wouldBreak 35 = .ok (.if_icmp .le 9, 3) := by decide +kernel
theorem dX6_wouldBreak_38 : decode cX6_wouldBreak 38 = .ok (.iconst 1, 1) := by decide +kernel
theorem dX6_wouldBreak_39 : decode cX6_wouldBreak 39 = .ok (.iload_n 2, 1) := by decide +kernel
theorem dX6_wouldBreak_40 : decode cX6_wouldBreak 40 = .ok (.ishl, 1) := by decide +kernel
theorem dX6_wouldBreak_41 : decode cX6_wouldBreak 41 = .ok (.goto 4, 3) := by decide +kernel
theorem dX6_wouldBreak_44 : decode cX6_wouldBreak 44 = .ok (.iconst 0, 1) := by decide +kernel
theorem dX6_wouldBreak_45 : decode cX6_wouldBreak 45 = .ok (.ior, 1) := by decide +kernel
theorem dX6_wouldBreak_46 : decode cX6_wouldBreak 46 = .ok (.istore_n 1, 1) := by decide +kernel
theorem dX6_wouldBreak_47 : decode cX6_wouldBreak 47 = .ok (.iinc 2 1, 3) := by decide +kernel
theorem dX6_wouldBreak_50 : decode cX6_wouldBreak 50 = .ok (.goto (-46), 3) := by decide +kernel
theorem dX6_wouldBreak_53 : decode cX6_wouldBreak 53 = .ok (.iload_n 1, 1) := by decide +kernel
theorem dX6_wouldBreak_54 : decode cX6_wouldBreak 54 = .ok (.ireturn, 1) := by decide +kernel
def bX6_wouldBreak_45 (fu : Nat) (σ : mt_St) (k4 : Int32 → Int32 → Option Int32) (x2 : Int32) (y0 : Int32) (y1 : Int32) : Option Int32 :=
  k4 (y1 ||| y0) (x2 + 1)
set_option maxHeartbeats 4000000 in
set_option maxRecDepth 20000 in
theorem vX6_wouldBreak_45 {K : mt_C} {fu : Nat} {σ : mt_St} {r : Int32} (hQ : mt_R K (some .int) (some (.int r)) σ) {k4 : Int32 → Int32 → Option Int32} (hk4 : ∀ (x1 : Int32) (x2 : Int32), mt_V K cX6_wouldBreak RX6 3 3 σ 4 [(0, .ref (mt_adr (kG K) 56)), (1, .int x1), (2, .int x2)] [] (k4 x1 x2 = some r)) : ∀ (x2 : Int32) (y0 : Int32) (y1 : Int32), mt_V K cX6_wouldBreak RX6 3 3 σ 45 [(0, .ref (mt_adr (kG K) 56)), (2, .int x2)] [.int y0, .int y1] (bX6_wouldBreak_45 fu σ k4 x2 y0 y1 = some r) := by
  intro x2 y0 y1
  unfold bX6_wouldBreak_45
  refine mv_ior dX6_wouldBreak_45 ?_
  refine mv_istore_n (lv' := [(0, .ref (mt_adr (kG K) 56)), (1, .int (y1 ||| y0)), (2, .int x2)]) [1, 0, 2] dX6_wouldBreak_46 rfl (by decide) rfl ?_
  refine mv_iinc (k0 := 2) (v := x2 + 1) (lv' := [(0, .ref (mt_adr (kG K) 56)), (1, .int (y1 ||| y0)), (2, .int (x2 + 1))]) [1, 2, 0] dX6_wouldBreak_47 rfl (mt_inc ic_1) (by decide) rfl ?_
  refine mv_goto 4 dX6_wouldBreak_50 (by decide) ?_
  exact hk4 (y1 ||| y0) (x2 + 1)
def bX6_wouldBreak_44 (fu : Nat) (σ : mt_St) (k4 : Int32 → Int32 → Option Int32) (x2 : Int32) (y0 : Int32) : Option Int32 :=
  bX6_wouldBreak_45 fu σ k4 x2 (0 : Int32) y0
set_option maxHeartbeats 4000000 in
set_option maxRecDepth 20000 in
theorem vX6_wouldBreak_44 {K : mt_C} {fu : Nat} {σ : mt_St} {r : Int32} (hQ : mt_R K (some .int) (some (.int r)) σ) {k4 : Int32 → Int32 → Option Int32} (hk4 : ∀ (x1 : Int32) (x2 : Int32), mt_V K cX6_wouldBreak RX6 3 3 σ 4 [(0, .ref (mt_adr (kG K) 56)), (1, .int x1), (2, .int x2)] [] (k4 x1 x2 = some r)) : ∀ (x2 : Int32) (y0 : Int32), mt_V K cX6_wouldBreak RX6 3 3 σ 44 [(0, .ref (mt_adr (kG K) 56)), (2, .int x2)] [.int y0] (bX6_wouldBreak_44 fu σ k4 x2 y0 = some r) := by
  intro x2 y0
  unfold bX6_wouldBreak_44
  refine mv_iconst (v := 0) dX6_wouldBreak_44 ic_0 ?_
  exact vX6_wouldBreak_45 hQ hk4 x2 (0 : Int32) y0
def bX6_wouldBreak_4 (fu : Nat) (σ : mt_St) : Nat → Int32 → Int32 → Option Int32
  | 0, _, _ => none
  | n + 1, x1, x2 =>
    if (σ 57 1) ≤ x2 then
      some x1
    else
      mt_ask (fX6_treatyIs fu σ x2 (4 : Int32)) fun r1 =>
      if r1 = (1 : Int32) then
        mt_ask (fX6_upIn fu σ x2) fun r2 =>
        mt_ask (fX6_bears fu σ x2) fun r3 =>
        if r2 ≤ r3 then
          bX6_wouldBreak_44 fu σ (fun x1 x2 => bX6_wouldBreak_4 fu σ n x1 x2) x2 x1
        else
          bX6_wouldBreak_45 fu σ (fun x1 x2 => bX6_wouldBreak_4 fu σ n x1 x2) x2 ((1 : Int32) <<< (x2 &&& 31)) x1
      else
        bX6_wouldBreak_44 fu σ (fun x1 x2 => bX6_wouldBreak_4 fu σ n x1 x2) x2 x1
set_option maxHeartbeats 4000000 in
set_option maxRecDepth 20000 in
theorem vX6_wouldBreak_4 {K : mt_C} {fu : Nat} {σ : mt_St} {r : Int32} (hQ : mt_R K (some .int) (some (.int r)) σ) : ∀ (n : Nat) (x1 : Int32) (x2 : Int32), mt_V K cX6_wouldBreak RX6 3 3 σ 4 [(0, .ref (mt_adr (kG K) 56)), (1, .int x1), (2, .int x2)] [] (bX6_wouldBreak_4 fu σ n x1 x2 = some r) := by
  intro n
  induction n with
  | zero => intro x1 x2; intro hP; unfold bX6_wouldBreak_4 at hP; cases hP
  | succ n ih =>
    intro x1 x2
    unfold bX6_wouldBreak_4
    refine mv_iload_n 2 dX6_wouldBreak_4 rfl rfl ?_
    refine mv_aload_n 0 dX6_wouldBreak_5 rfl rfl ?_
    refine mg_X6_0 fl_X6_9 dX6_wouldBreak_6 ?_
    refine mv_iconst (v := 1) dX6_wouldBreak_9 ic_1 ?_
    refine mv_ialdk 86 1 rfl rfl (by decide) (by decide) dX6_wouldBreak_10 ?_
    refine mv_icmp_ge 53 dX6_wouldBreak_11 (by decide) ?_ ?_
    · refine mv_iload_n 1 dX6_wouldBreak_53 rfl rfl ?_
      exact mv_iretr hQ dX6_wouldBreak_54
    · refine mv_iload_n 1 dX6_wouldBreak_14 rfl rfl ?_
      refine mv_aload_n 0 dX6_wouldBreak_15 rfl rfl ?_
      refine mv_iload_n 2 dX6_wouldBreak_16 rfl rfl ?_
      refine mv_iconst (v := 4) dX6_wouldBreak_17 ic_4 ?_
      refine mv_cVri (As := [.int x2, .int (4 : Int32)]) (st := [.int x1]) cal_X6_treatyIs ins_X6_treatyIs ml_X6_99 rfl (by decide) rfl rfl (by decide) rfl (Nat.le_of_ble_eq_true rfl) dX6_wouldBreak_18 (fun r h => co_X6_treatyIs h) (fun r1 => ?_)
      refine mv_iconst (v := 1) dX6_wouldBreak_21 ic_1 ?_
      refine mv_icmp_ne 44 dX6_wouldBreak_22 (by decide) ?_ ?_
      · refine mv_sub (lv' := [(0, .ref (mt_adr (kG K) 56)), (2, .int x2)]) [0, 2] rfl ?_
        exact vX6_wouldBreak_44 hQ (fun x1 x2 => ih x1 x2) x2 x1
      · refine mv_aload_n 0 dX6_wouldBreak_25 rfl rfl ?_
        refine mv_iload_n 2 dX6_wouldBreak_26 rfl rfl ?_
        refine mv_cVri (As := [.int x2]) (st := [.int x1]) cal_X6_upIn ins_X6_upIn ml_X6_117 rfl (by decide) rfl rfl (by decide) rfl (Nat.le_of_ble_eq_true rfl) dX6_wouldBreak_27 (fun r h => co_X6_upIn h) (fun r2 => ?_)
        refine mv_aload_n 0 dX6_wouldBreak_30 rfl rfl ?_
        refine mv_iload_n 2 dX6_wouldBreak_31 rfl rfl ?_
        refine mv_cVri (As := [.int x2]) (st := [.int r2, .int x1]) cal_X6_bears ins_X6_bears ml_X6_105 rfl (by decide) rfl rfl (by decide) rfl (Nat.le_of_ble_eq_true rfl) dX6_wouldBreak_32 (fun r h => co_X6_bears h) (fun r3 => ?_)
        refine mv_icmp_le 44 dX6_wouldBreak_35 (by decide) ?_ ?_
        · refine mv_sub (lv' := [(0, .ref (mt_adr (kG K) 56)), (2, .int x2)]) [0, 2] rfl ?_
          exact vX6_wouldBreak_44 hQ (fun x1 x2 => ih x1 x2) x2 x1
        · refine mv_iconst (v := 1) dX6_wouldBreak_38 ic_1 ?_
          refine mv_iload_n 2 dX6_wouldBreak_39 rfl rfl ?_
          refine mv_ishl dX6_wouldBreak_40 ?_
          refine mv_goto 45 dX6_wouldBreak_41 (by decide) ?_
          refine mv_sub (lv' := [(0, .ref (mt_adr (kG K) 56)), (2, .int x2)]) [0, 2] rfl ?_
          exact vX6_wouldBreak_45 hQ (fun x1 x2 => ih x1 x2) x2 ((1 : Int32) <<< (x2 &&& 31)) x1
def fX6_wouldBreak (fu : Nat) (σ : mt_St) : Option Int32 :=
  bX6_wouldBreak_4 fu σ fu (0 : Int32) (0 : Int32)
set_option maxHeartbeats 4000000 in
set_option maxRecDepth 20000 in
theorem vX6_wouldBreak {K : mt_C} {fu : Nat} {σ : mt_St} {r : Int32} (hQ : mt_R K (some .int) (some (.int r)) σ) : mt_V K cX6_wouldBreak RX6 3 3 σ 0 [(0, .ref (mt_adr (kG K) 56))] [] (fX6_wouldBreak fu σ = some r) := by
  unfold fX6_wouldBreak
  refine mv_iconst (v := 0) dX6_wouldBreak_0 ic_0 ?_
  refine mv_istore_n (lv' := [(0, .ref (mt_adr (kG K) 56)), (1, .int (0 : Int32))]) [1, 0] dX6_wouldBreak_1 rfl (by decide) rfl ?_
  refine mv_iconst (v := 0) dX6_wouldBreak_2 ic_0 ?_
  refine mv_istore_n (lv' := [(0, .ref (mt_adr (kG K) 56)), (1, .int (0 : Int32)), (2, .int (0 : Int32))]) [1, 2, 0] dX6_wouldBreak_3 rfl (by decide) rfl ?_
  exact vX6_wouldBreak_4 hQ fu (0 : Int32) (0 : Int32)
theorem co_X6_wouldBreak {l : Launch} {G : mt_G} {fu : Nat} {σ : mt_St} {r : Int32}  (h : fX6_wouldBreak fu σ = some r) : mt_Con l G yX6_wouldBreak cX6_wouldBreak 3 (some .int) 3 [.ref (mt_adr G 56)] σ (some (.int r)) σ :=
  mt_con (by decide) (Nat.le_of_ble_eq_true rfl) (fun K hl hG hQ => by subst hl; subst hG; exact fun _ => vX6_wouldBreak  hQ h)
theorem dX6_marked_0 : decode cX6_marked 0 = .ok (.iconst 0, 1) := by decide +kernel
theorem dX6_marked_1 : decode cX6_marked 1 = .ok (.istore_n 1, 1) := by decide +kernel
theorem dX6_marked_2 : decode cX6_marked 2 = .ok (.iconst 0, 1) := by decide +kernel
theorem dX6_marked_3 : decode cX6_marked 3 = .ok (.istore_n 2, 1) := by decide +kernel
theorem dX6_marked_4 : decode cX6_marked 4 = .ok (.iload_n 2, 1) := by decide +kernel
theorem dX6_marked_5 : decode cX6_marked 5 = .ok (.aload_n 0, 1) := by decide +kernel
theorem dX6_marked_6 : decode cX6_marked 6 = .ok (.getfield 9, 3) := by decide +kernel
theorem dX6_marked_9 : decode cX6_marked 9 = .ok (.iconst 1, 1) := by decide +kernel
theorem dX6_marked_10 : decode cX6_marked 10 = .ok (.iaload, 1) := by decide +kernel
theorem dX6_marked_11 : decode cX6_marked 11 = .ok (.if_icmp .ge 32, 3) := by decide +kernel
theorem dX6_marked_14 : decode cX6_marked 14 = .ok (.iload_n 1, 1) := by decide +kernel
theorem dX6_marked_15 : decode cX6_marked 15 = .ok (.aload_n 0, 1) := by decide +kernel
theorem dX6_marked_16 : decode cX6_marked 16 = .ok (.iload_n 2, 1) := by decide +kernel
theorem dX6_marked_17 : decode cX6_marked 17 = .ok (.iconst 4, 1) := by decide +kernel
theorem dX6_marked_18 : decode cX6_marked 18 = .ok (.invokevirtual 99, 3) := by decide +kernel
theorem dX6_marked_21 : decode cX6_marked 21 = .ok (.iconst 1, 1) := by decide +kernel
theorem dX6_marked_22 : decode cX6_marked 22 = .ok (.if_icmp .ne 12, 3) := by decide +kernel
theorem dX6_marked_25 : decode cX6_marked 25 = .ok (.aload_n 0, 1) := by decide +kernel
theorem dX6_marked_26 : decode cX6_marked 26 = .ok (.iload_n 2, 1) := by decide +kernel
theorem dX6_marked_27 : decode cX6_marked 27 = .ok (.iconst 3, 1) := by decide +kernel
theorem dX6_marked_28 : decode cX6_marked 28 = .ok (.invokevirtual 99, 3) := by decide +kernel
theorem dX6_marked_31 : decode cX6_marked 31 = .ok (.goto 4, 3) := by decide +kernel
theorem dX6_marked_34 : decode cX6_marked 34 = .ok (.iconst 0, 1) := by decide +kernel
theorem dX6_marked_35 : decode cX6_marked 35 = .ok (.ior, 1) := by decide +kernel
theorem dX6_marked_36 : decode cX6_marked 36 = .ok (.istore_n 1, 1) := by decide +kernel
theorem dX6_marked_37 : decode cX6_marked 37 = .ok (.iinc 2 1, 3) := by decide +kernel
theorem dX6_marked_40 : decode cX6_marked 40 = .ok (.goto (-36), 3) := by decide +kernel
theorem dX6_marked_43 : decode cX6_marked 43 = .ok (.iload_n 1, 1) := by decide +kernel
theorem dX6_marked_44 : decode cX6_marked 44 = .ok (.ireturn, 1) := by decide +kernel
def bX6_marked_35 (fu : Nat) (σ : mt_St) (k4 : Int32 → Int32 → Option Int32) (x2 : Int32) (y0 : Int32) (y1 : Int32) : Option Int32 :=
  k4 (y1 ||| y0) (x2 + 1)
set_option maxHeartbeats 4000000 in
set_option maxRecDepth 20000 in
theorem vX6_marked_35 {K : mt_C} {fu : Nat} {σ : mt_St} {r : Int32} (hQ : mt_R K (some .int) (some (.int r)) σ) {k4 : Int32 → Int32 → Option Int32} (hk4 : ∀ (x1 : Int32) (x2 : Int32), mt_V K cX6_marked RX6 3 2 σ 4 [(0, .ref (mt_adr (kG K) 56)), (1, .int x1), (2, .int x2)] [] (k4 x1 x2 = some r)) : ∀ (x2 : Int32) (y0 : Int32) (y1 : Int32), mt_V K cX6_marked RX6 3 2 σ 35 [(0, .ref (mt_adr (kG K) 56)), (2, .int x2)] [.int y0, .int y1] (bX6_marked_35 fu σ k4 x2 y0 y1 = some r) := by
  intro x2 y0 y1
  unfold bX6_marked_35
  refine mv_ior dX6_marked_35 ?_
  refine mv_istore_n (lv' := [(0, .ref (mt_adr (kG K) 56)), (1, .int (y1 ||| y0)), (2, .int x2)]) [1, 0, 2] dX6_marked_36 rfl (by decide) rfl ?_
  refine mv_iinc (k0 := 2) (v := x2 + 1) (lv' := [(0, .ref (mt_adr (kG K) 56)), (1, .int (y1 ||| y0)), (2, .int (x2 + 1))]) [1, 2, 0] dX6_marked_37 rfl (mt_inc ic_1) (by decide) rfl ?_
  refine mv_goto 4 dX6_marked_40 (by decide) ?_
  exact hk4 (y1 ||| y0) (x2 + 1)
def bX6_marked_4 (fu : Nat) (σ : mt_St) : Nat → Int32 → Int32 → Option Int32
  | 0, _, _ => none
  | n + 1, x1, x2 =>
    if (σ 57 1) ≤ x2 then
      some x1
    else
      mt_ask (fX6_treatyIs fu σ x2 (4 : Int32)) fun r1 =>
      if r1 = (1 : Int32) then
        mt_ask (fX6_treatyIs fu σ x2 (3 : Int32)) fun r2 =>
        bX6_marked_35 fu σ (fun x1 x2 => bX6_marked_4 fu σ n x1 x2) x2 r2 x1
      else
        bX6_marked_35 fu σ (fun x1 x2 => bX6_marked_4 fu σ n x1 x2) x2 (0 : Int32) x1
set_option maxHeartbeats 4000000 in
set_option maxRecDepth 20000 in
theorem vX6_marked_4 {K : mt_C} {fu : Nat} {σ : mt_St} {r : Int32} (hQ : mt_R K (some .int) (some (.int r)) σ) : ∀ (n : Nat) (x1 : Int32) (x2 : Int32), mt_V K cX6_marked RX6 3 2 σ 4 [(0, .ref (mt_adr (kG K) 56)), (1, .int x1), (2, .int x2)] [] (bX6_marked_4 fu σ n x1 x2 = some r) := by
  intro n
  induction n with
  | zero => intro x1 x2; intro hP; unfold bX6_marked_4 at hP; cases hP
  | succ n ih =>
    intro x1 x2
    unfold bX6_marked_4
    refine mv_iload_n 2 dX6_marked_4 rfl rfl ?_
    refine mv_aload_n 0 dX6_marked_5 rfl rfl ?_
    refine mg_X6_0 fl_X6_9 dX6_marked_6 ?_
    refine mv_iconst (v := 1) dX6_marked_9 ic_1 ?_
    refine mv_ialdk 86 1 rfl rfl (by decide) (by decide) dX6_marked_10 ?_
    refine mv_icmp_ge 43 dX6_marked_11 (by decide) ?_ ?_
    · refine mv_iload_n 1 dX6_marked_43 rfl rfl ?_
      exact mv_iretr hQ dX6_marked_44
    · refine mv_iload_n 1 dX6_marked_14 rfl rfl ?_
      refine mv_aload_n 0 dX6_marked_15 rfl rfl ?_
      refine mv_iload_n 2 dX6_marked_16 rfl rfl ?_
      refine mv_iconst (v := 4) dX6_marked_17 ic_4 ?_
      refine mv_cVri (As := [.int x2, .int (4 : Int32)]) (st := [.int x1]) cal_X6_treatyIs ins_X6_treatyIs ml_X6_99 rfl (by decide) rfl rfl (by decide) rfl (Nat.le_of_ble_eq_true rfl) dX6_marked_18 (fun r h => co_X6_treatyIs h) (fun r1 => ?_)
      refine mv_iconst (v := 1) dX6_marked_21 ic_1 ?_
      refine mv_icmp_ne 34 dX6_marked_22 (by decide) ?_ ?_
      · refine mv_iconst (v := 0) dX6_marked_34 ic_0 ?_
        refine mv_sub (lv' := [(0, .ref (mt_adr (kG K) 56)), (2, .int x2)]) [0, 2] rfl ?_
        exact vX6_marked_35 hQ (fun x1 x2 => ih x1 x2) x2 (0 : Int32) x1
      · refine mv_aload_n 0 dX6_marked_25 rfl rfl ?_
        refine mv_iload_n 2 dX6_marked_26 rfl rfl ?_
        refine mv_iconst (v := 3) dX6_marked_27 ic_3 ?_
        refine mv_cVri (As := [.int x2, .int (3 : Int32)]) (st := [.int x1]) cal_X6_treatyIs ins_X6_treatyIs ml_X6_99 rfl (by decide) rfl rfl (by decide) rfl (Nat.le_of_ble_eq_true rfl) dX6_marked_28 (fun r h => co_X6_treatyIs h) (fun r2 => ?_)
        refine mv_goto 35 dX6_marked_31 (by decide) ?_
        refine mv_sub (lv' := [(0, .ref (mt_adr (kG K) 56)), (2, .int x2)]) [0, 2] rfl ?_
        exact vX6_marked_35 hQ (fun x1 x2 => ih x1 x2) x2 r2 x1
def fX6_marked (fu : Nat) (σ : mt_St) : Option Int32 :=
  bX6_marked_4 fu σ fu (0 : Int32) (0 : Int32)
set_option maxHeartbeats 4000000 in
set_option maxRecDepth 20000 in
theorem vX6_marked {K : mt_C} {fu : Nat} {σ : mt_St} {r : Int32} (hQ : mt_R K (some .int) (some (.int r)) σ) : mt_V K cX6_marked RX6 3 2 σ 0 [(0, .ref (mt_adr (kG K) 56))] [] (fX6_marked fu σ = some r) := by
  unfold fX6_marked
  refine mv_iconst (v := 0) dX6_marked_0 ic_0 ?_
  refine mv_istore_n (lv' := [(0, .ref (mt_adr (kG K) 56)), (1, .int (0 : Int32))]) [1, 0] dX6_marked_1 rfl (by decide) rfl ?_
  refine mv_iconst (v := 0) dX6_marked_2 ic_0 ?_
  refine mv_istore_n (lv' := [(0, .ref (mt_adr (kG K) 56)), (1, .int (0 : Int32)), (2, .int (0 : Int32))]) [1, 2, 0] dX6_marked_3 rfl (by decide) rfl ?_
  exact vX6_marked_4 hQ fu (0 : Int32) (0 : Int32)
theorem co_X6_marked {l : Launch} {G : mt_G} {fu : Nat} {σ : mt_St} {r : Int32}  (h : fX6_marked fu σ = some r) : mt_Con l G yX6_marked cX6_marked 3 (some .int) 2 [.ref (mt_adr G 56)] σ (some (.int r)) σ :=
  mt_con (by decide) (Nat.le_of_ble_eq_true rfl) (fun K hl hG hQ => by subst hl; subst hG; exact fun _ => vX6_marked  hQ h)
theorem dX6_heldLongest_0 : decode cX6_heldLongest 0 = .ok (.iconst (-1), 1) := by decide +kernel
theorem dX6_heldLongest_1 : decode cX6_heldLongest 1 = .ok (.istore_n 1, 1) := by decide +kernel
theorem dX6_heldLongest_2 : decode cX6_heldLongest 2 = .ok (.iconst 0, 1) := by decide +kernel
theorem dX6_heldLongest_3 : decode cX6_heldLongest 3 = .ok (.istore_n 2, 1) := by decide +kernel
theorem dX6_heldLongest_4 : decode cX6_heldLongest 4 = .ok (.iload_n 2, 1) := by decide +kernel
theorem dX6_heldLongest_5 : decode cX6_heldLongest 5 = .ok (.aload_n 0, 1) := by decide +kernel
theorem dX6_heldLongest_6 : decode cX6_heldLongest 6 = .ok (.getfield 9, 3) := by decide +kernel
theorem dX6_heldLongest_9 : decode cX6_heldLongest 9 = .ok (.iconst 1, 1) := by decide +kernel
theorem dX6_heldLongest_10 : decode cX6_heldLongest 10 = .ok (.iaload, 1) := by decide +kernel
theorem dX6_heldLongest_11 : decode cX6_heldLongest 11 = .ok (.if_icmp .ge 54, 3) := by decide +kernel
theorem dX6_heldLongest_14 : decode cX6_heldLongest 14 = .ok (.aload_n 0, 1) := by decide +kernel
theorem dX6_heldLongest_15 : decode cX6_heldLongest 15 = .ok (.iload_n 2, 1) := by decide +kernel
theorem dX6_heldLongest_16 : decode cX6_heldLongest 16 = .ok (.iconst 4, 1) := by decide +kernel
theorem dX6_heldLongest_17 : decode cX6_heldLongest 17 = .ok (.invokevirtual 99, 3) := by decide +kernel
theorem dX6_heldLongest_20 : decode cX6_heldLongest 20 = .ok (.iconst 1, 1) := by decide +kernel
theorem dX6_heldLongest_21 : decode cX6_heldLongest 21 = .ok (.if_icmp .ne 26, 3) := by decide +kernel
theorem dX6_heldLongest_24 : decode cX6_heldLongest 24 = .ok (.iload_n 1, 1) := by decide +kernel
theorem dX6_heldLongest_25 : decode cX6_heldLongest 25 = .ok (.ifCond .lt 18, 3) := by decide +kernel
theorem dX6_heldLongest_28 : decode cX6_heldLongest 28 = .ok (.aload_n 0, 1) := by decide +kernel
theorem dX6_heldLongest_29 : decode cX6_heldLongest 29 = .ok (.iload_n 2, 1) := by decide +kernel
theorem dX6_heldLongest_30 : decode cX6_heldLongest 30 = .ok (.iconst 5, 1) := by decide +kernel
theorem dX6_heldLongest_31 : decode cX6_heldLongest 31 = .ok (.invokevirtual 99, 3) := by decide +kernel
theorem dX6_heldLongest_34 : decode cX6_heldLongest 34 = .ok (.aload_n 0, 1) := by decide +kernel
theorem dX6_heldLongest_35 : decode cX6_heldLongest 35 = .ok (.iload_n 1, 1) := by decide +kernel
theorem dX6_heldLongest_36 : decode cX6_heldLongest 36 = .ok (.iconst 5, 1) := by decide +kernel
theorem dX6_heldLongest_37 : decode cX6_heldLongest 37 = .ok (.invokevirtual 99, 3) := by decide +kernel
theorem dX6_heldLongest_40 : decode cX6_heldLongest 40 = .ok (.if_icmp .le 7, 3) := by decide +kernel
theorem dX6_heldLongest_43 : decode cX6_heldLongest 43 = .ok (.iconst 1, 1) := by decide +kernel
theorem dX6_heldLongest_44 : decode cX6_heldLongest 44 = .ok (.goto 4, 3) := by decide +kernel
theorem dX6_heldLongest_47 : decode cX6_heldLongest 47 = .ok (.iconst 0, 1) := by decide +kernel
theorem dX6_heldLongest_48 : decode cX6_heldLongest 48 = .ok (.istore_n 3, 1) := by decide +kernel
theorem dX6_heldLongest_49 : decode cX6_heldLongest 49 = .ok (.iload_n 3, 1) := by decide +kernel
theorem dX6_heldLongest_50 : decode cX6_heldLongest 50 = .ok (.ifCond .eq 7, 3) := by decide +kernel
theorem dX6_heldLongest_53 : decode cX6_heldLongest 53 = .ok (.iload_n 2, 1) := by decide +kernel
theorem dX6_heldLongest_54 : decode cX6_heldLongest 54 = .ok (.goto 4, 3) := by decide +kernel
theorem dX6_heldLongest_57 : decode cX6_heldLongest 57 = .ok (.iload_n 1, 1) := by decide +kernel
theorem dX6_heldLongest_58 : decode cX6_heldLongest 58 = .ok (.istore_n 1, 1) := by decide +kernel
theorem dX6_heldLongest_59 : decode cX6_heldLongest 59 = .ok (.iinc 2 1, 3) := by decide +kernel
theorem dX6_heldLongest_62 : decode cX6_heldLongest 62 = .ok (.goto (-58), 3) := by decide +kernel
theorem dX6_heldLongest_65 : decode cX6_heldLongest 65 = .ok (.iload_n 1, 1) := by decide +kernel
theorem dX6_heldLongest_66 : decode cX6_heldLongest 66 = .ok (.ireturn, 1) := by decide +kernel
def bX6_heldLongest_58 (fu : Nat) (σ : mt_St) (k4 : Int32 → Int32 → Option Int32) (x2 : Int32) (y0 : Int32) : Option Int32 :=
  k4 y0 (x2 + 1)
set_option maxHeartbeats 4000000 in
set_option maxRecDepth 20000 in
theorem vX6_heldLongest_58 {K : mt_C} {fu : Nat} {σ : mt_St} {r : Int32} (hQ : mt_R K (some .int) (some (.int r)) σ) {k4 : Int32 → Int32 → Option Int32} (hk4 : ∀ (x1 : Int32) (x2 : Int32), mt_V K cX6_heldLongest RX6 4 2 σ 4 [(0, .ref (mt_adr (kG K) 56)), (1, .int x1), (2, .int x2)] [] (k4 x1 x2 = some r)) : ∀ (x2 : Int32) (y0 : Int32), mt_V K cX6_heldLongest RX6 4 2 σ 58 [(0, .ref (mt_adr (kG K) 56)), (2, .int x2)] [.int y0] (bX6_heldLongest_58 fu σ k4 x2 y0 = some r) := by
  intro x2 y0
  unfold bX6_heldLongest_58
  refine mv_istore_n (lv' := [(0, .ref (mt_adr (kG K) 56)), (1, .int y0), (2, .int x2)]) [1, 0, 2] dX6_heldLongest_58 rfl (by decide) rfl ?_
  refine mv_iinc (k0 := 2) (v := x2 + 1) (lv' := [(0, .ref (mt_adr (kG K) 56)), (1, .int y0), (2, .int (x2 + 1))]) [1, 2, 0] dX6_heldLongest_59 rfl (mt_inc ic_1) (by decide) rfl ?_
  refine mv_goto 4 dX6_heldLongest_62 (by decide) ?_
  exact hk4 y0 (x2 + 1)
def bX6_heldLongest_48 (fu : Nat) (σ : mt_St) (k4 : Int32 → Int32 → Option Int32) (x1 : Int32) (x2 : Int32) (y0 : Int32) : Option Int32 :=
  if y0 = 0 then
    bX6_heldLongest_58 fu σ k4 x2 x1
  else
    bX6_heldLongest_58 fu σ k4 x2 x2
set_option maxHeartbeats 4000000 in
set_option maxRecDepth 20000 in
theorem vX6_heldLongest_48 {K : mt_C} {fu : Nat} {σ : mt_St} {r : Int32} (hQ : mt_R K (some .int) (some (.int r)) σ) {k4 : Int32 → Int32 → Option Int32} (hk4 : ∀ (x1 : Int32) (x2 : Int32), mt_V K cX6_heldLongest RX6 4 2 σ 4 [(0, .ref (mt_adr (kG K) 56)), (1, .int x1), (2, .int x2)] [] (k4 x1 x2 = some r)) : ∀ (x1 : Int32) (x2 : Int32) (y0 : Int32), mt_V K cX6_heldLongest RX6 4 2 σ 48 [(0, .ref (mt_adr (kG K) 56)), (1, .int x1), (2, .int x2)] [.int y0] (bX6_heldLongest_48 fu σ k4 x1 x2 y0 = some r) := by
  intro x1 x2 y0
  unfold bX6_heldLongest_48
  refine mv_istore_n (lv' := [(0, .ref (mt_adr (kG K) 56)), (1, .int x1), (2, .int x2), (3, .int y0)]) [1, 2, 3, 0] dX6_heldLongest_48 rfl (by decide) rfl ?_
  refine mv_iload_n 3 dX6_heldLongest_49 rfl rfl ?_
  refine mv_if_eq 57 dX6_heldLongest_50 (by decide) ?_ ?_
  · refine mv_iload_n 1 dX6_heldLongest_57 rfl rfl ?_
    refine mv_sub (lv' := [(0, .ref (mt_adr (kG K) 56)), (2, .int x2)]) [0, 2] rfl ?_
    exact vX6_heldLongest_58 hQ hk4 x2 x1
  · refine mv_iload_n 2 dX6_heldLongest_53 rfl rfl ?_
    refine mv_goto 58 dX6_heldLongest_54 (by decide) ?_
    refine mv_sub (lv' := [(0, .ref (mt_adr (kG K) 56)), (2, .int x2)]) [0, 2] rfl ?_
    exact vX6_heldLongest_58 hQ hk4 x2 x2
def bX6_heldLongest_47 (fu : Nat) (σ : mt_St) (k4 : Int32 → Int32 → Option Int32) (x1 : Int32) (x2 : Int32) : Option Int32 :=
  bX6_heldLongest_48 fu σ k4 x1 x2 (0 : Int32)
set_option maxHeartbeats 4000000 in
set_option maxRecDepth 20000 in
theorem vX6_heldLongest_47 {K : mt_C} {fu : Nat} {σ : mt_St} {r : Int32} (hQ : mt_R K (some .int) (some (.int r)) σ) {k4 : Int32 → Int32 → Option Int32} (hk4 : ∀ (x1 : Int32) (x2 : Int32), mt_V K cX6_heldLongest RX6 4 2 σ 4 [(0, .ref (mt_adr (kG K) 56)), (1, .int x1), (2, .int x2)] [] (k4 x1 x2 = some r)) : ∀ (x1 : Int32) (x2 : Int32), mt_V K cX6_heldLongest RX6 4 2 σ 47 [(0, .ref (mt_adr (kG K) 56)), (1, .int x1), (2, .int x2)] [] (bX6_heldLongest_47 fu σ k4 x1 x2 = some r) := by
  intro x1 x2
  unfold bX6_heldLongest_47
  refine mv_iconst (v := 0) dX6_heldLongest_47 ic_0 ?_
  exact vX6_heldLongest_48 hQ hk4 x1 x2 (0 : Int32)
def bX6_heldLongest_43 (fu : Nat) (σ : mt_St) (k4 : Int32 → Int32 → Option Int32) (x1 : Int32) (x2 : Int32) : Option Int32 :=
  bX6_heldLongest_48 fu σ k4 x1 x2 (1 : Int32)
set_option maxHeartbeats 4000000 in
set_option maxRecDepth 20000 in
theorem vX6_heldLongest_43 {K : mt_C} {fu : Nat} {σ : mt_St} {r : Int32} (hQ : mt_R K (some .int) (some (.int r)) σ) {k4 : Int32 → Int32 → Option Int32} (hk4 : ∀ (x1 : Int32) (x2 : Int32), mt_V K cX6_heldLongest RX6 4 2 σ 4 [(0, .ref (mt_adr (kG K) 56)), (1, .int x1), (2, .int x2)] [] (k4 x1 x2 = some r)) : ∀ (x1 : Int32) (x2 : Int32), mt_V K cX6_heldLongest RX6 4 2 σ 43 [(0, .ref (mt_adr (kG K) 56)), (1, .int x1), (2, .int x2)] [] (bX6_heldLongest_43 fu σ k4 x1 x2 = some r) := by
  intro x1 x2
  unfold bX6_heldLongest_43
  refine mv_iconst (v := 1) dX6_heldLongest_43 ic_1 ?_
  refine mv_goto 48 dX6_heldLongest_44 (by decide) ?_
  exact vX6_heldLongest_48 hQ hk4 x1 x2 (1 : Int32)
def bX6_heldLongest_4 (fu : Nat) (σ : mt_St) : Nat → Int32 → Int32 → Option Int32
  | 0, _, _ => none
  | n + 1, x1, x2 =>
    if (σ 57 1) ≤ x2 then
      some x1
    else
      mt_ask (fX6_treatyIs fu σ x2 (4 : Int32)) fun r1 =>
      if r1 = (1 : Int32) then
        if x1 < 0 then
          bX6_heldLongest_43 fu σ (fun x1 x2 => bX6_heldLongest_4 fu σ n x1 x2) x1 x2
        else
          mt_ask (fX6_treatyIs fu σ x2 (5 : Int32)) fun r2 =>
          mt_ask (fX6_treatyIs fu σ x1 (5 : Int32)) fun r3 =>
          if r2 ≤ r3 then
            bX6_heldLongest_47 fu σ (fun x1 x2 => bX6_heldLongest_4 fu σ n x1 x2) x1 x2
          else
            bX6_heldLongest_43 fu σ (fun x1 x2 => bX6_heldLongest_4 fu σ n x1 x2) x1 x2
      else
        bX6_heldLongest_47 fu σ (fun x1 x2 => bX6_heldLongest_4 fu σ n x1 x2) x1 x2
set_option maxHeartbeats 4000000 in
set_option maxRecDepth 20000 in
theorem vX6_heldLongest_4 {K : mt_C} {fu : Nat} {σ : mt_St} {r : Int32} (hQ : mt_R K (some .int) (some (.int r)) σ) : ∀ (n : Nat) (x1 : Int32) (x2 : Int32), mt_V K cX6_heldLongest RX6 4 2 σ 4 [(0, .ref (mt_adr (kG K) 56)), (1, .int x1), (2, .int x2)] [] (bX6_heldLongest_4 fu σ n x1 x2 = some r) := by
  intro n
  induction n with
  | zero => intro x1 x2; intro hP; unfold bX6_heldLongest_4 at hP; cases hP
  | succ n ih =>
    intro x1 x2
    unfold bX6_heldLongest_4
    refine mv_iload_n 2 dX6_heldLongest_4 rfl rfl ?_
    refine mv_aload_n 0 dX6_heldLongest_5 rfl rfl ?_
    refine mg_X6_0 fl_X6_9 dX6_heldLongest_6 ?_
    refine mv_iconst (v := 1) dX6_heldLongest_9 ic_1 ?_
    refine mv_ialdk 86 1 rfl rfl (by decide) (by decide) dX6_heldLongest_10 ?_
    refine mv_icmp_ge 65 dX6_heldLongest_11 (by decide) ?_ ?_
    · refine mv_iload_n 1 dX6_heldLongest_65 rfl rfl ?_
      exact mv_iretr hQ dX6_heldLongest_66
    · refine mv_aload_n 0 dX6_heldLongest_14 rfl rfl ?_
      refine mv_iload_n 2 dX6_heldLongest_15 rfl rfl ?_
      refine mv_iconst (v := 4) dX6_heldLongest_16 ic_4 ?_
      refine mv_cVri (As := [.int x2, .int (4 : Int32)]) (st := []) cal_X6_treatyIs ins_X6_treatyIs ml_X6_99 rfl (by decide) rfl rfl (by decide) rfl (Nat.le_of_ble_eq_true rfl) dX6_heldLongest_17 (fun r h => co_X6_treatyIs h) (fun r1 => ?_)
      refine mv_iconst (v := 1) dX6_heldLongest_20 ic_1 ?_
      refine mv_icmp_ne 47 dX6_heldLongest_21 (by decide) ?_ ?_
      · exact vX6_heldLongest_47 hQ (fun x1 x2 => ih x1 x2) x1 x2
      · refine mv_iload_n 1 dX6_heldLongest_24 rfl rfl ?_
        refine mv_if_lt 43 dX6_heldLongest_25 (by decide) ?_ ?_
        · exact vX6_heldLongest_43 hQ (fun x1 x2 => ih x1 x2) x1 x2
        · refine mv_aload_n 0 dX6_heldLongest_28 rfl rfl ?_
          refine mv_iload_n 2 dX6_heldLongest_29 rfl rfl ?_
          refine mv_iconst (v := 5) dX6_heldLongest_30 ic_5 ?_
          refine mv_cVri (As := [.int x2, .int (5 : Int32)]) (st := []) cal_X6_treatyIs ins_X6_treatyIs ml_X6_99 rfl (by decide) rfl rfl (by decide) rfl (Nat.le_of_ble_eq_true rfl) dX6_heldLongest_31 (fun r h => co_X6_treatyIs h) (fun r2 => ?_)
          refine mv_aload_n 0 dX6_heldLongest_34 rfl rfl ?_
          refine mv_iload_n 1 dX6_heldLongest_35 rfl rfl ?_
          refine mv_iconst (v := 5) dX6_heldLongest_36 ic_5 ?_
          refine mv_cVri (As := [.int x1, .int (5 : Int32)]) (st := [.int r2]) cal_X6_treatyIs ins_X6_treatyIs ml_X6_99 rfl (by decide) rfl rfl (by decide) rfl (Nat.le_of_ble_eq_true rfl) dX6_heldLongest_37 (fun r h => co_X6_treatyIs h) (fun r3 => ?_)
          refine mv_icmp_le 47 dX6_heldLongest_40 (by decide) ?_ ?_
          · exact vX6_heldLongest_47 hQ (fun x1 x2 => ih x1 x2) x1 x2
          · exact vX6_heldLongest_43 hQ (fun x1 x2 => ih x1 x2) x1 x2
def fX6_heldLongest (fu : Nat) (σ : mt_St) : Option Int32 :=
  bX6_heldLongest_4 fu σ fu (-1 : Int32) (0 : Int32)
set_option maxHeartbeats 4000000 in
set_option maxRecDepth 20000 in
theorem vX6_heldLongest {K : mt_C} {fu : Nat} {σ : mt_St} {r : Int32} (hQ : mt_R K (some .int) (some (.int r)) σ) : mt_V K cX6_heldLongest RX6 4 2 σ 0 [(0, .ref (mt_adr (kG K) 56))] [] (fX6_heldLongest fu σ = some r) := by
  unfold fX6_heldLongest
  refine mv_iconst (v := -1) dX6_heldLongest_0 ic_m1 ?_
  refine mv_istore_n (lv' := [(0, .ref (mt_adr (kG K) 56)), (1, .int (-1 : Int32))]) [1, 0] dX6_heldLongest_1 rfl (by decide) rfl ?_
  refine mv_iconst (v := 0) dX6_heldLongest_2 ic_0 ?_
  refine mv_istore_n (lv' := [(0, .ref (mt_adr (kG K) 56)), (1, .int (-1 : Int32)), (2, .int (0 : Int32))]) [1, 2, 0] dX6_heldLongest_3 rfl (by decide) rfl ?_
  exact vX6_heldLongest_4 hQ fu (-1 : Int32) (0 : Int32)
theorem co_X6_heldLongest {l : Launch} {G : mt_G} {fu : Nat} {σ : mt_St} {r : Int32}  (h : fX6_heldLongest fu σ = some r) : mt_Con l G yX6_heldLongest cX6_heldLongest 4 (some .int) 2 [.ref (mt_adr G 56)] σ (some (.int r)) σ :=
  mt_con (by decide) (Nat.le_of_ble_eq_true rfl) (fun K hl hG hQ => by subst hl; subst hG; exact fun _ => vX6_heldLongest  hQ h)
theorem dX6_now_0 : decode cX6_now 0 = .ok (.iload_n 1, 1) := by decide +kernel
theorem dX6_now_1 : decode cX6_now 1 = .ok (.tableswitch 93 0 7 #[47, 54, 59, 66, 73, 78, 83, 88], 47) := by decide +kernel
theorem dX6_now_48 : decode cX6_now 48 = .ok (.aload_n 0, 1) := by decide +kernel
theorem dX6_now_49 : decode cX6_now 49 = .ok (.getfield 9, 3) := by decide +kernel
theorem dX6_now_52 : decode cX6_now 52 = .ok (.iconst 0, 1) := by decide +kernel
theorem dX6_now_53 : decode cX6_now 53 = .ok (.iaload, 1) := by decide +kernel
theorem dX6_now_54 : decode cX6_now 54 = .ok (.ireturn, 1) := by decide +kernel
theorem dX6_now_55 : decode cX6_now 55 = .ok (.aload_n 0, 1) := by decide +kernel
theorem dX6_now_56 : decode cX6_now 56 = .ok (.invokevirtual 167, 3) := by decide +kernel
theorem dX6_now_59 : decode cX6_now 59 = .ok (.ireturn, 1) := by decide +kernel
theorem dX6_now_60 : decode cX6_now 60 = .ok (.aload_n 0, 1) := by decide +kernel
theorem dX6_now_61 : decode cX6_now 61 = .ok (.getfield 9, 3) := by decide +kernel
theorem dX6_now_64 : decode cX6_now 64 = .ok (.iconst 3, 1) := by decide +kernel
theorem dX6_now_65 : decode cX6_now 65 = .ok (.iaload, 1) := by decide +kernel
theorem dX6_now_66 : decode cX6_now 66 = .ok (.ireturn, 1) := by decide +kernel
theorem dX6_now_67 : decode cX6_now 67 = .ok (.aload_n 0, 1) := by decide +kernel
theorem dX6_now_68 : decode cX6_now 68 = .ok (.bipush 7, 2) := by decide +kernel
theorem dX6_now_70 : decode cX6_now 70 = .ok (.invokevirtual 171, 3) := by decide +kernel
theorem dX6_now_73 : decode cX6_now 73 = .ok (.ireturn, 1) := by decide +kernel
theorem dX6_now_74 : decode cX6_now 74 = .ok (.aload_n 0, 1) := by decide +kernel
theorem dX6_now_75 : decode cX6_now 75 = .ok (.invokevirtual 174, 3) := by decide +kernel
theorem dX6_now_78 : decode cX6_now 78 = .ok (.ireturn, 1) := by decide +kernel
theorem dX6_now_79 : decode cX6_now 79 = .ok (.aload_n 0, 1) := by decide +kernel
theorem dX6_now_80 : decode cX6_now 80 = .ok (.invokevirtual 177, 3) := by decide +kernel
theorem dX6_now_83 : decode cX6_now 83 = .ok (.ireturn, 1) := by decide +kernel
theorem dX6_now_84 : decode cX6_now 84 = .ok (.aload_n 0, 1) := by decide +kernel
theorem dX6_now_85 : decode cX6_now 85 = .ok (.invokevirtual 180, 3) := by decide +kernel
theorem dX6_now_88 : decode cX6_now 88 = .ok (.ireturn, 1) := by decide +kernel
theorem dX6_now_89 : decode cX6_now 89 = .ok (.aload_n 0, 1) := by decide +kernel
theorem dX6_now_90 : decode cX6_now 90 = .ok (.invokevirtual 183, 3) := by decide +kernel
theorem dX6_now_93 : decode cX6_now 93 = .ok (.ireturn, 1) := by decide +kernel
theorem dX6_now_94 : decode cX6_now 94 = .ok (.aload_n 0, 1) := by decide +kernel
theorem dX6_now_95 : decode cX6_now 95 = .ok (.ldc 60, 2) := by decide +kernel
theorem dX6_now_97 : decode cX6_now 97 = .ok (.invokevirtual 66, 3) := by decide +kernel
theorem dX6_now_100 : decode cX6_now 100 = .ok (.ireturn, 1) := by decide +kernel
def fX6_now (fu : Nat) (σ : mt_St) (a1 : Int32) : Option (Int32 × mt_St) :=
  if a1 = 0 then
    some ((σ 57 0), σ)
  else
  if a1 = 1 then
    mt_ask (fX6_inForce fu σ) fun r1 =>
    some (r1, σ)
  else
  if a1 = 2 then
    some ((σ 57 3), σ)
  else
  if a1 = 3 then
    mt_ask (fX6_sumOf fu σ (7 : Int32)) fun r2 =>
    some (r2, σ)
  else
  if a1 = 4 then
    mt_ask (fX6_pairsAtWar fu σ) fun r3 =>
    some (r3, σ)
  else
  if a1 = 5 then
    mt_ask (fX6_wouldBreak fu σ) fun r4 =>
    some (r4, σ)
  else
  if a1 = 6 then
    mt_ask (fX6_marked fu σ) fun r5 =>
    some (r5, σ)
  else
  if a1 = 7 then
    mt_ask (fX6_heldLongest fu σ) fun r6 =>
    some (r6, σ)
  else
  mt_call (fX6_finding fu σ (-1000001 : Int32)) fun r7 s8 =>
  some (r7, s8)
set_option maxHeartbeats 4000000 in
set_option maxRecDepth 20000 in
theorem vX6_now {K : mt_C} {fu : Nat} {σ : mt_St} {a1 : Int32} {r : Int32} {σf : mt_St} (hQ : mt_R K (some .int) (some (.int r)) σf) : mt_V K cX6_now RX6 2 5 σ 0 [(0, .ref (mt_adr (kG K) 56)), (1, .int a1)] [] (fX6_now fu σ a1 = some (r, σf)) := by
  unfold fX6_now
  refine mv_iload_n 1 dX6_now_0 rfl rfl ?_
  refine mv_case (fun e0 => ?_) (fun n0 => ?_)
  · refine mv_tsin 0 48 e0 dX6_now_1 (by decide) (by decide) rfl (by decide) ?_
    refine mv_aload_n 0 dX6_now_48 rfl rfl ?_
    refine mg_X6_0 fl_X6_9 dX6_now_49 ?_
    refine mv_iconst (v := 0) dX6_now_52 ic_0 ?_
    refine mv_ialdk 86 0 rfl rfl (by decide) (by decide) dX6_now_53 ?_
    exact mv_iret hQ dX6_now_54
  refine mv_case (fun e1 => ?_) (fun n1 => ?_)
  · refine mv_tsin 1 55 e1 dX6_now_1 (by decide) (by decide) rfl (by decide) ?_
    refine mv_aload_n 0 dX6_now_55 rfl rfl ?_
    refine mv_cVri (As := []) (st := []) cal_X6_inForce ins_X6_inForce ml_X6_167 rfl (by decide) rfl rfl (by decide) rfl (Nat.le_of_ble_eq_true rfl) dX6_now_56 (fun r h => co_X6_inForce h) (fun r1 => ?_)
    exact mv_iret hQ dX6_now_59
  refine mv_case (fun e2 => ?_) (fun n2 => ?_)
  · refine mv_tsin 2 60 e2 dX6_now_1 (by decide) (by decide) rfl (by decide) ?_
    refine mv_aload_n 0 dX6_now_60 rfl rfl ?_
    refine mg_X6_0 fl_X6_9 dX6_now_61 ?_
    refine mv_iconst (v := 3) dX6_now_64 ic_3 ?_
    refine mv_ialdk 86 3 rfl rfl (by decide) (by decide) dX6_now_65 ?_
    exact mv_iret hQ dX6_now_66
  refine mv_case (fun e3 => ?_) (fun n3 => ?_)
  · refine mv_tsin 3 67 e3 dX6_now_1 (by decide) (by decide) rfl (by decide) ?_
    refine mv_aload_n 0 dX6_now_67 rfl rfl ?_
    refine mv_bipush (v := 7) dX6_now_68 bp_7 ?_
    refine mv_cVri (As := [.int (7 : Int32)]) (st := []) cal_X6_sumOf ins_X6_sumOf ml_X6_171 rfl (by decide) rfl rfl (by decide) rfl (Nat.le_of_ble_eq_true rfl) dX6_now_70 (fun r h => co_X6_sumOf h) (fun r2 => ?_)
    exact mv_iret hQ dX6_now_73
  refine mv_case (fun e4 => ?_) (fun n4 => ?_)
  · refine mv_tsin 4 74 e4 dX6_now_1 (by decide) (by decide) rfl (by decide) ?_
    refine mv_aload_n 0 dX6_now_74 rfl rfl ?_
    refine mv_cVri (As := []) (st := []) cal_X6_pairsAtWar ins_X6_pairsAtWar ml_X6_174 rfl (by decide) rfl rfl (by decide) rfl (Nat.le_of_ble_eq_true rfl) dX6_now_75 (fun r h => co_X6_pairsAtWar h) (fun r3 => ?_)
    exact mv_iret hQ dX6_now_78
  refine mv_case (fun e5 => ?_) (fun n5 => ?_)
  · refine mv_tsin 5 79 e5 dX6_now_1 (by decide) (by decide) rfl (by decide) ?_
    refine mv_aload_n 0 dX6_now_79 rfl rfl ?_
    refine mv_cVri (As := []) (st := []) cal_X6_wouldBreak ins_X6_wouldBreak ml_X6_177 rfl (by decide) rfl rfl (by decide) rfl (Nat.le_of_ble_eq_true rfl) dX6_now_80 (fun r h => co_X6_wouldBreak h) (fun r4 => ?_)
    exact mv_iret hQ dX6_now_83
  refine mv_case (fun e6 => ?_) (fun n6 => ?_)
  · refine mv_tsin 6 84 e6 dX6_now_1 (by decide) (by decide) rfl (by decide) ?_
    refine mv_aload_n 0 dX6_now_84 rfl rfl ?_
    refine mv_cVri (As := []) (st := []) cal_X6_marked ins_X6_marked ml_X6_180 rfl (by decide) rfl rfl (by decide) rfl (Nat.le_of_ble_eq_true rfl) dX6_now_85 (fun r h => co_X6_marked h) (fun r5 => ?_)
    exact mv_iret hQ dX6_now_88
  refine mv_case (fun e7 => ?_) (fun n7 => ?_)
  · refine mv_tsin 7 89 e7 dX6_now_1 (by decide) (by decide) rfl (by decide) ?_
    refine mv_aload_n 0 dX6_now_89 rfl rfl ?_
    refine mv_cVri (As := []) (st := []) cal_X6_heldLongest ins_X6_heldLongest ml_X6_183 rfl (by decide) rfl rfl (by decide) rfl (Nat.le_of_ble_eq_true rfl) dX6_now_90 (fun r h => co_X6_heldLongest h) (fun r6 => ?_)
    exact mv_iret hQ dX6_now_93
  refine mv_tsout 94 (by have z0 := mt_ne (z := 0) n0 (by decide); have z1 := mt_ne (z := 1) n1 (by decide); have z2 := mt_ne (z := 2) n2 (by decide); have z3 := mt_ne (z := 3) n3 (by decide); have z4 := mt_ne (z := 4) n4 (by decide); have z5 := mt_ne (z := 5) n5 (by decide); have z6 := mt_ne (z := 6) n6 (by decide); have z7 := mt_ne (z := 7) n7 (by decide); omega) dX6_now_1 (by decide) ?_
  refine mv_aload_n 0 dX6_now_94 rfl rfl ?_
  refine mv_ldc kc_X6_60 dX6_now_95 ?_
  refine mv_cVwi (As := [.int (-1000001 : Int32)]) (st := []) cal_X6_finding ins_X6_finding ml_X6_66 rfl (by decide) rfl rfl (by decide) rfl (Nat.le_of_ble_eq_true rfl) dX6_now_97 (fun r s h => co_X6_finding h) (fun r7 s8 => ?_)
  exact mv_iret hQ dX6_now_100
theorem co_X6_now {l : Launch} {G : mt_G} {fu : Nat} {σ : mt_St} {a1 : Int32} {r : Int32} {σf : mt_St}  (h : fX6_now fu σ a1 = some (r, σf)) : mt_Con l G yX6_now cX6_now 2 (some .int) 5 [.ref (mt_adr G 56), .int a1] σ (some (.int r)) σf :=
  mt_con (by decide) (Nat.le_of_ble_eq_true rfl) (fun K hl hG hQ => by subst hl; subst hG; exact fun _ => vX6_now  hQ h)
theorem dX6_behind_0 : decode cX6_behind 0 = .ok (.aload_n 0, 1) := by decide +kernel
theorem dX6_behind_1 : decode cX6_behind 1 = .ok (.getfield 9, 3) := by decide +kernel
theorem dX6_behind_4 : decode cX6_behind 4 = .ok (.aload_n 0, 1) := by decide +kernel
theorem dX6_behind_5 : decode cX6_behind 5 = .ok (.getfield 16, 3) := by decide +kernel
theorem dX6_behind_8 : decode cX6_behind 8 = .ok (.invokestatic 61, 3) := by decide +kernel
theorem dX6_behind_11 : decode cX6_behind 11 = .ok (.aload_n 0, 1) := by decide +kernel
theorem dX6_behind_12 : decode cX6_behind 12 = .ok (.iload_n 2, 1) := by decide +kernel
theorem dX6_behind_13 : decode cX6_behind 13 = .ok (.invokevirtual 164, 3) := by decide +kernel
theorem dX6_behind_16 : decode cX6_behind 16 = .ok (.aload_n 0, 1) := by decide +kernel
theorem dX6_behind_17 : decode cX6_behind 17 = .ok (.aload_n 0, 1) := by decide +kernel
theorem dX6_behind_18 : decode cX6_behind 18 = .ok (.getfield 9, 3) := by decide +kernel
theorem dX6_behind_21 : decode cX6_behind 21 = .ok (.iload_n 1, 1) := by decide +kernel
theorem dX6_behind_22 : decode cX6_behind 22 = .ok (.iaload, 1) := by decide +kernel
theorem dX6_behind_23 : decode cX6_behind 23 = .ok (.invokevirtual 186, 3) := by decide +kernel
theorem dX6_behind_26 : decode cX6_behind 26 = .ok (.ireturn, 1) := by decide +kernel
def fX6_behind (fu : Nat) (σ : mt_St) (a1 : Int32) (a2 : Int32) : Option (Int32 × mt_St) :=
  mt_call (fX6_copyRow fu σ 57 59) fun _ s2 =>
  mt_call (fX6_yearsGo fu s2 a2) fun _ s4 =>
  mt_chk (mt_in a1 86) <|
  mt_call (fX6_putBack fu s4 (s4 57 (Int32.toNatClampNeg a1))) fun r5 s6 =>
  some (r5, s6)
set_option maxHeartbeats 4000000 in
set_option maxRecDepth 20000 in
theorem vX6_behind {K : mt_C} {fu : Nat} {σ : mt_St} {a1 : Int32} {a2 : Int32} {r : Int32} {σf : mt_St} (hQ : mt_R K (some .int) (some (.int r)) σf) : mt_V K cX6_behind RX6 3 6 σ 0 [(0, .ref (mt_adr (kG K) 56)), (1, .int a1), (2, .int a2)] [] (fX6_behind fu σ a1 a2 = some (r, σf)) := by
  unfold fX6_behind
  refine mv_aload_n 0 dX6_behind_0 rfl rfl ?_
  refine mg_X6_0 fl_X6_9 dX6_behind_1 ?_
  refine mv_aload_n 0 dX6_behind_4 rfl rfl ?_
  refine mg_X6_2 fl_X6_16 dX6_behind_5 ?_
  refine mv_cSwv (As := [.ref (mt_adr (kG K) 57), .ref (mt_adr (kG K) 59)]) (st := []) cal_X6_copyRow sta_X6_copyRow ml_X6_61 rfl (by decide) rfl (Nat.le_of_ble_eq_true rfl) dX6_behind_8 (fun r s h => co_X6_copyRow rfl rfl rfl rfl h) (fun r1 s2 => ?_)
  refine mv_aload_n 0 dX6_behind_11 rfl rfl ?_
  refine mv_iload_n 2 dX6_behind_12 rfl rfl ?_
  refine mv_cVwv (As := [.int a2]) (st := []) cal_X6_yearsGo ins_X6_yearsGo ml_X6_164 rfl (by decide) rfl rfl (by decide) rfl (Nat.le_of_ble_eq_true rfl) dX6_behind_13 (fun r s h => co_X6_yearsGo h) (fun r3 s4 => ?_)
  refine mv_aload_n 0 dX6_behind_16 rfl rfl ?_
  refine mv_aload_n 0 dX6_behind_17 rfl rfl ?_
  refine mg_X6_0 fl_X6_9 dX6_behind_18 ?_
  refine mv_iload_n 1 dX6_behind_21 rfl rfl ?_
  refine mv_iald 86 rfl rfl dX6_behind_22 ?_
  refine mv_cVwi (As := [.int (s4 57 (Int32.toNatClampNeg a1))]) (st := []) cal_X6_putBack ins_X6_putBack ml_X6_186 rfl (by decide) rfl rfl (by decide) rfl (Nat.le_of_ble_eq_true rfl) dX6_behind_23 (fun r s h => co_X6_putBack h) (fun r5 s6 => ?_)
  exact mv_iret hQ dX6_behind_26
theorem co_X6_behind {l : Launch} {G : mt_G} {fu : Nat} {σ : mt_St} {a1 : Int32} {a2 : Int32} {r : Int32} {σf : mt_St}  (h : fX6_behind fu σ a1 a2 = some (r, σf)) : mt_Con l G yX6_behind cX6_behind 3 (some .int) 6 [.ref (mt_adr G 56), .int a1, .int a2] σ (some (.int r)) σf :=
  mt_con (by decide) (Nat.le_of_ble_eq_true rfl) (fun K hl hG hQ => by subst hl; subst hG; exact fun _ => vX6_behind  hQ h)
theorem dX6_ahead_0 : decode cX6_ahead 0 = .ok (.iload_n 2, 1) := by decide +kernel
theorem dX6_ahead_1 : decode cX6_ahead 1 = .ok (.iconst 3, 1) := by decide +kernel
theorem dX6_ahead_2 : decode cX6_ahead 2 = .ok (.bipush 7, 2) := by decide +kernel
theorem dX6_ahead_4 : decode cX6_ahead 4 = .ok (.invokestatic 70, 3) := by decide +kernel
theorem dX6_ahead_7 : decode cX6_ahead 7 = .ok (.ifCond .ne 9, 3) := by decide +kernel
theorem dX6_ahead_10 : decode cX6_ahead 10 = .ok (.iload_n 2, 1) := by decide +kernel
theorem dX6_ahead_11 : decode cX6_ahead 11 = .ok (.bipush 10, 2) := by decide +kernel
theorem dX6_ahead_13 : decode cX6_ahead 13 = .ok (.if_icmp .ne 7, 3) := by decide +kernel
theorem dX6_ahead_16 : decode cX6_ahead 16 = .ok (.iconst 1, 1) := by decide +kernel
theorem dX6_ahead_17 : decode cX6_ahead 17 = .ok (.goto 4, 3) := by decide +kernel
theorem dX6_ahead_20 : decode cX6_ahead 20 = .ok (.iconst 0, 1) := by decide +kernel
theorem dX6_ahead_21 : decode cX6_ahead 21 = .ok (.istore 4, 2) := by decide +kernel
theorem dX6_ahead_23 : decode cX6_ahead 23 = .ok (.aload_n 0, 1) := by decide +kernel
theorem dX6_ahead_24 : decode cX6_ahead 24 = .ok (.iload_n 1, 1) := by decide +kernel
theorem dX6_ahead_25 : decode cX6_ahead 25 = .ok (.invokevirtual 120, 3) := by decide +kernel
theorem dX6_ahead_28 : decode cX6_ahead 28 = .ok (.ifCond .eq 18, 3) := by decide +kernel
theorem dX6_ahead_31 : decode cX6_ahead 31 = .ok (.iload 4, 2) := by decide +kernel
theorem dX6_ahead_33 : decode cX6_ahead 33 = .ok (.ifCond .eq 13, 3) := by decide +kernel
theorem dX6_ahead_36 : decode cX6_ahead 36 = .ok (.iload_n 3, 1) := by decide +kernel
theorem dX6_ahead_37 : decode cX6_ahead 37 = .ok (.iconst 0, 1) := by decide +kernel
theorem dX6_ahead_38 : decode cX6_ahead 38 = .ok (.bipush 100, 2) := by decide +kernel
theorem dX6_ahead_40 : decode cX6_ahead 40 = .ok (.invokestatic 70, 3) := by decide +kernel
theorem dX6_ahead_43 : decode cX6_ahead 43 = .ok (.ifCond .ne 10, 3) := by decide +kernel
theorem dX6_ahead_46 : decode cX6_ahead 46 = .ok (.aload_n 0, 1) := by decide +kernel
theorem dX6_ahead_47 : decode cX6_ahead 47 = .ok (.ldc 60, 2) := by decide +kernel
theorem dX6_ahead_49 : decode cX6_ahead 49 = .ok (.invokevirtual 66, 3) := by decide +kernel
theorem dX6_ahead_52 : decode cX6_ahead 52 = .ok (.ireturn, 1) := by decide +kernel
theorem dX6_ahead_53 : decode cX6_ahead 53 = .ok (.aload_n 0, 1) := by decide +kernel
theorem dX6_ahead_54 : decode cX6_ahead 54 = .ok (.getfield 9, 3) := by decide +kernel
theorem dX6_ahead_57 : decode cX6_ahead 57 = .ok (.aload_n 0, 1) := by decide +kernel
theorem dX6_ahead_58 : decode cX6_ahead 58 = .ok (.getfield 16, 3) := by decide +kernel
theorem dX6_ahead_61 : decode cX6_ahead 61 = .ok (.invokestatic 61, 3) := by decide +kernel
theorem dX6_ahead_64 : decode cX6_ahead 64 = .ok (.aload_n 0, 1) := by decide +kernel
theorem dX6_ahead_65 : decode cX6_ahead 65 = .ok (.iload_n 3, 1) := by decide +kernel
theorem dX6_ahead_66 : decode cX6_ahead 66 = .ok (.invokevirtual 164, 3) := by decide +kernel
theorem dX6_ahead_69 : decode cX6_ahead 69 = .ok (.aload_n 0, 1) := by decide +kernel
theorem dX6_ahead_70 : decode cX6_ahead 70 = .ok (.aload_n 0, 1) := by decide +kernel
theorem dX6_ahead_71 : decode cX6_ahead 71 = .ok (.iload_n 1, 1) := by decide +kernel
theorem dX6_ahead_72 : decode cX6_ahead 72 = .ok (.iload_n 2, 1) := by decide +kernel
theorem dX6_ahead_73 : decode cX6_ahead 73 = .ok (.invokevirtual 123, 3) := by decide +kernel
theorem dX6_ahead_76 : decode cX6_ahead 76 = .ok (.invokevirtual 186, 3) := by decide +kernel
theorem dX6_ahead_79 : decode cX6_ahead 79 = .ok (.ireturn, 1) := by decide +kernel
def bX6_ahead_46 (fu : Nat) (σ : mt_St) : Option (Int32 × mt_St) :=
  mt_call (fX6_finding fu σ (-1000001 : Int32)) fun r1 s2 =>
  some (r1, s2)
set_option maxHeartbeats 4000000 in
set_option maxRecDepth 20000 in
theorem vX6_ahead_46 {K : mt_C} {fu : Nat} {r : Int32} {σf : mt_St} (hQ : mt_R K (some .int) (some (.int r)) σf) : ∀ (σ : mt_St), mt_V K cX6_ahead RX6 5 6 σ 46 [(0, .ref (mt_adr (kG K) 56))] [] (bX6_ahead_46 fu σ = some (r, σf)) := by
  intro σ
  unfold bX6_ahead_46
  refine mv_aload_n 0 dX6_ahead_46 rfl rfl ?_
  refine mv_ldc kc_X6_60 dX6_ahead_47 ?_
  refine mv_cVwi (As := [.int (-1000001 : Int32)]) (st := []) cal_X6_finding ins_X6_finding ml_X6_66 rfl (by decide) rfl rfl (by decide) rfl (Nat.le_of_ble_eq_true rfl) dX6_ahead_49 (fun r s h => co_X6_finding h) (fun r1 s2 => ?_)
  exact mv_iret hQ dX6_ahead_52
def bX6_ahead_21 (fu : Nat) (σ : mt_St) (x1 : Int32) (x2 : Int32) (x3 : Int32) (y0 : Int32) : Option (Int32 × mt_St) :=
  mt_ask (fX6_isTreaty fu σ x1) fun r1 =>
  if r1 = 0 then
    bX6_ahead_46 fu σ
  else
    if y0 = 0 then
      bX6_ahead_46 fu σ
    else
      mt_ask (fX6_within fu x3 (0 : Int32) (100 : Int32)) fun r2 =>
      if r2 = 0 then
        bX6_ahead_46 fu σ
      else
        mt_call (fX6_copyRow fu σ 57 59) fun _ s4 =>
        mt_call (fX6_yearsGo fu s4 x3) fun _ s6 =>
        mt_ask (fX6_told fu s6 x1 x2) fun r7 =>
        mt_call (fX6_putBack fu s6 r7) fun r8 s9 =>
        some (r8, s9)
set_option maxHeartbeats 4000000 in
set_option maxRecDepth 20000 in
theorem vX6_ahead_21 {K : mt_C} {fu : Nat} {r : Int32} {σf : mt_St} (hQ : mt_R K (some .int) (some (.int r)) σf) : ∀ (σ : mt_St) (x1 : Int32) (x2 : Int32) (x3 : Int32) (y0 : Int32), mt_V K cX6_ahead RX6 5 6 σ 21 [(0, .ref (mt_adr (kG K) 56)), (1, .int x1), (2, .int x2), (3, .int x3)] [.int y0] (bX6_ahead_21 fu σ x1 x2 x3 y0 = some (r, σf)) := by
  intro σ x1 x2 x3 y0
  unfold bX6_ahead_21
  refine mv_istore (lv' := [(0, .ref (mt_adr (kG K) 56)), (1, .int x1), (2, .int x2), (3, .int x3), (4, .int y0)]) [1, 2, 3, 4, 0] dX6_ahead_21 (by decide) rfl ?_
  refine mv_aload_n 0 dX6_ahead_23 rfl rfl ?_
  refine mv_iload_n 1 dX6_ahead_24 rfl rfl ?_
  refine mv_cVri (As := [.int x1]) (st := []) cal_X6_isTreaty ins_X6_isTreaty ml_X6_120 rfl (by decide) rfl rfl (by decide) rfl (Nat.le_of_ble_eq_true rfl) dX6_ahead_25 (fun r h => co_X6_isTreaty h) (fun r1 => ?_)
  refine mv_if_eq 46 dX6_ahead_28 (by decide) ?_ ?_
  · refine mv_sub (lv' := [(0, .ref (mt_adr (kG K) 56))]) [0] rfl ?_
    exact vX6_ahead_46 hQ σ
  · refine mv_iload 4 dX6_ahead_31 rfl ?_
    refine mv_if_eq 46 dX6_ahead_33 (by decide) ?_ ?_
    · refine mv_sub (lv' := [(0, .ref (mt_adr (kG K) 56))]) [0] rfl ?_
      exact vX6_ahead_46 hQ σ
    · refine mv_iload_n 3 dX6_ahead_36 rfl rfl ?_
      refine mv_iconst (v := 0) dX6_ahead_37 ic_0 ?_
      refine mv_bipush (v := 100) dX6_ahead_38 bp_100 ?_
      refine mv_cSri (As := [.int x3, .int (0 : Int32), .int (100 : Int32)]) (st := []) cal_X6_within sta_X6_within ml_X6_70 rfl (by decide) rfl (Nat.le_of_ble_eq_true rfl) dX6_ahead_40 (fun r h => co_X6_within h) (fun r2 => ?_)
      refine mv_if_ne 53 dX6_ahead_43 (by decide) ?_ ?_
      · refine mv_aload_n 0 dX6_ahead_53 rfl rfl ?_
        refine mg_X6_0 fl_X6_9 dX6_ahead_54 ?_
        refine mv_aload_n 0 dX6_ahead_57 rfl rfl ?_
        refine mg_X6_2 fl_X6_16 dX6_ahead_58 ?_
        refine mv_cSwv (As := [.ref (mt_adr (kG K) 57), .ref (mt_adr (kG K) 59)]) (st := []) cal_X6_copyRow sta_X6_copyRow ml_X6_61 rfl (by decide) rfl (Nat.le_of_ble_eq_true rfl) dX6_ahead_61 (fun r s h => co_X6_copyRow rfl rfl rfl rfl h) (fun r3 s4 => ?_)
        refine mv_aload_n 0 dX6_ahead_64 rfl rfl ?_
        refine mv_iload_n 3 dX6_ahead_65 rfl rfl ?_
        refine mv_cVwv (As := [.int x3]) (st := []) cal_X6_yearsGo ins_X6_yearsGo ml_X6_164 rfl (by decide) rfl rfl (by decide) rfl (Nat.le_of_ble_eq_true rfl) dX6_ahead_66 (fun r s h => co_X6_yearsGo h) (fun r5 s6 => ?_)
        refine mv_aload_n 0 dX6_ahead_69 rfl rfl ?_
        refine mv_aload_n 0 dX6_ahead_70 rfl rfl ?_
        refine mv_iload_n 1 dX6_ahead_71 rfl rfl ?_
        refine mv_iload_n 2 dX6_ahead_72 rfl rfl ?_
        refine mv_cVri (As := [.int x1, .int x2]) (st := [.ref (mt_adr (kG K) 56)]) cal_X6_told ins_X6_told ml_X6_123 rfl (by decide) rfl rfl (by decide) rfl (Nat.le_of_ble_eq_true rfl) dX6_ahead_73 (fun r h => co_X6_told h) (fun r7 => ?_)
        refine mv_cVwi (As := [.int r7]) (st := []) cal_X6_putBack ins_X6_putBack ml_X6_186 rfl (by decide) rfl rfl (by decide) rfl (Nat.le_of_ble_eq_true rfl) dX6_ahead_76 (fun r s h => co_X6_putBack h) (fun r8 s9 => ?_)
        exact mv_iret hQ dX6_ahead_79
      · refine mv_sub (lv' := [(0, .ref (mt_adr (kG K) 56))]) [0] rfl ?_
        exact vX6_ahead_46 hQ σ
def bX6_ahead_16 (fu : Nat) (σ : mt_St) (x1 : Int32) (x2 : Int32) (x3 : Int32) : Option (Int32 × mt_St) :=
  bX6_ahead_21 fu σ x1 x2 x3 (1 : Int32)
set_option maxHeartbeats 4000000 in
set_option maxRecDepth 20000 in
theorem vX6_ahead_16 {K : mt_C} {fu : Nat} {r : Int32} {σf : mt_St} (hQ : mt_R K (some .int) (some (.int r)) σf) : ∀ (σ : mt_St) (x1 : Int32) (x2 : Int32) (x3 : Int32), mt_V K cX6_ahead RX6 5 6 σ 16 [(0, .ref (mt_adr (kG K) 56)), (1, .int x1), (2, .int x2), (3, .int x3)] [] (bX6_ahead_16 fu σ x1 x2 x3 = some (r, σf)) := by
  intro σ x1 x2 x3
  unfold bX6_ahead_16
  refine mv_iconst (v := 1) dX6_ahead_16 ic_1 ?_
  refine mv_goto 21 dX6_ahead_17 (by decide) ?_
  exact vX6_ahead_21 hQ σ x1 x2 x3 (1 : Int32)
def fX6_ahead (fu : Nat) (σ : mt_St) (a1 : Int32) (a2 : Int32) (a3 : Int32) : Option (Int32 × mt_St) :=
  mt_ask (fX6_within fu a2 (3 : Int32) (7 : Int32)) fun r1 =>
  if r1 = 0 then
    if a2 = (10 : Int32) then
      bX6_ahead_16 fu σ a1 a2 a3
    else
      bX6_ahead_21 fu σ a1 a2 a3 (0 : Int32)
  else
    bX6_ahead_16 fu σ a1 a2 a3
set_option maxHeartbeats 4000000 in
set_option maxRecDepth 20000 in
theorem vX6_ahead {K : mt_C} {fu : Nat} {σ : mt_St} {a1 : Int32} {a2 : Int32} {a3 : Int32} {r : Int32} {σf : mt_St} (hQ : mt_R K (some .int) (some (.int r)) σf) : mt_V K cX6_ahead RX6 5 6 σ 0 [(0, .ref (mt_adr (kG K) 56)), (1, .int a1), (2, .int a2), (3, .int a3)] [] (fX6_ahead fu σ a1 a2 a3 = some (r, σf)) := by
  unfold fX6_ahead
  refine mv_iload_n 2 dX6_ahead_0 rfl rfl ?_
  refine mv_iconst (v := 3) dX6_ahead_1 ic_3 ?_
  refine mv_bipush (v := 7) dX6_ahead_2 bp_7 ?_
  refine mv_cSri (As := [.int a2, .int (3 : Int32), .int (7 : Int32)]) (st := []) cal_X6_within sta_X6_within ml_X6_70 rfl (by decide) rfl (Nat.le_of_ble_eq_true rfl) dX6_ahead_4 (fun r h => co_X6_within h) (fun r1 => ?_)
  refine mv_if_ne 16 dX6_ahead_7 (by decide) ?_ ?_
  · exact vX6_ahead_16 hQ σ a1 a2 a3
  · refine mv_iload_n 2 dX6_ahead_10 rfl rfl ?_
    refine mv_bipush (v := 10) dX6_ahead_11 bp_10 ?_
    refine mv_icmp_ne 20 dX6_ahead_13 (by decide) ?_ ?_
    · refine mv_iconst (v := 0) dX6_ahead_20 ic_0 ?_
      exact vX6_ahead_21 hQ σ a1 a2 a3 (0 : Int32)
    · exact vX6_ahead_16 hQ σ a1 a2 a3
theorem co_X6_ahead {l : Launch} {G : mt_G} {fu : Nat} {σ : mt_St} {a1 : Int32} {a2 : Int32} {a3 : Int32} {r : Int32} {σf : mt_St}  (h : fX6_ahead fu σ a1 a2 a3 = some (r, σf)) : mt_Con l G yX6_ahead cX6_ahead 5 (some .int) 6 [.ref (mt_adr G 56), .int a1, .int a2, .int a3] σ (some (.int r)) σf :=
  mt_con (by decide) (Nat.le_of_ble_eq_true rfl) (fun K hl hG hQ => by subst hl; subst hG; exact fun _ => vX6_ahead  hQ h)
theorem dX6_gold_0 : decode cX6_gold 0 = .ok (.iload_n 1, 1) := by decide +kernel
theorem dX6_gold_1 : decode cX6_gold 1 = .ok (.iconst 0, 1) := by decide +kernel
theorem dX6_gold_2 : decode cX6_gold 2 = .ok (.bipush 100, 2) := by decide +kernel
theorem dX6_gold_4 : decode cX6_gold 4 = .ok (.invokestatic 70, 3) := by decide +kernel
theorem dX6_gold_7 : decode cX6_gold 7 = .ok (.ifCond .eq 12, 3) := by decide +kernel
theorem dX6_gold_10 : decode cX6_gold 10 = .ok (.aload_n 0, 1) := by decide +kernel
theorem dX6_gold_11 : decode cX6_gold 11 = .ok (.iconst 3, 1) := by decide +kernel
theorem dX6_gold_12 : decode cX6_gold 12 = .ok (.iload_n 1, 1) := by decide +kernel
theorem dX6_gold_13 : decode cX6_gold 13 = .ok (.invokevirtual 189, 3) := by decide +kernel
theorem dX6_gold_16 : decode cX6_gold 16 = .ok (.goto 9, 3) := by decide +kernel
theorem dX6_gold_19 : decode cX6_gold 19 = .ok (.aload_n 0, 1) := by decide +kernel
theorem dX6_gold_20 : decode cX6_gold 20 = .ok (.ldc 60, 2) := by decide +kernel
theorem dX6_gold_22 : decode cX6_gold 22 = .ok (.invokevirtual 66, 3) := by decide +kernel
theorem dX6_gold_25 : decode cX6_gold 25 = .ok (.ireturn, 1) := by decide +kernel
def bX6_gold_25 (fu : Nat) (σ : mt_St) (y0 : Int32) : Option (Int32 × mt_St) :=
  some (y0, σ)
set_option maxHeartbeats 4000000 in
set_option maxRecDepth 20000 in
theorem vX6_gold_25 {K : mt_C} {fu : Nat} {r : Int32} {σf : mt_St} (hQ : mt_R K (some .int) (some (.int r)) σf) : ∀ (σ : mt_St) (y0 : Int32), mt_V K cX6_gold RX6 2 7 σ 25 [] [.int y0] (bX6_gold_25 fu σ y0 = some (r, σf)) := by
  intro σ y0
  unfold bX6_gold_25
  exact mv_iret hQ dX6_gold_25
def fX6_gold (fu : Nat) (σ : mt_St) (a1 : Int32) : Option (Int32 × mt_St) :=
  mt_ask (fX6_within fu a1 (0 : Int32) (100 : Int32)) fun r1 =>
  if r1 = 0 then
    mt_call (fX6_finding fu σ (-1000001 : Int32)) fun r2 s3 =>
    bX6_gold_25 fu s3 r2
  else
    mt_call (fX6_behind fu σ (3 : Int32) a1) fun r4 s5 =>
    bX6_gold_25 fu s5 r4
set_option maxHeartbeats 4000000 in
set_option maxRecDepth 20000 in
theorem vX6_gold {K : mt_C} {fu : Nat} {σ : mt_St} {a1 : Int32} {r : Int32} {σf : mt_St} (hQ : mt_R K (some .int) (some (.int r)) σf) : mt_V K cX6_gold RX6 2 7 σ 0 [(0, .ref (mt_adr (kG K) 56)), (1, .int a1)] [] (fX6_gold fu σ a1 = some (r, σf)) := by
  unfold fX6_gold
  refine mv_iload_n 1 dX6_gold_0 rfl rfl ?_
  refine mv_iconst (v := 0) dX6_gold_1 ic_0 ?_
  refine mv_bipush (v := 100) dX6_gold_2 bp_100 ?_
  refine mv_cSri (As := [.int a1, .int (0 : Int32), .int (100 : Int32)]) (st := []) cal_X6_within sta_X6_within ml_X6_70 rfl (by decide) rfl (Nat.le_of_ble_eq_true rfl) dX6_gold_4 (fun r h => co_X6_within h) (fun r1 => ?_)
  refine mv_if_eq 19 dX6_gold_7 (by decide) ?_ ?_
  · refine mv_aload_n 0 dX6_gold_19 rfl rfl ?_
    refine mv_ldc kc_X6_60 dX6_gold_20 ?_
    refine mv_cVwi (As := [.int (-1000001 : Int32)]) (st := []) cal_X6_finding ins_X6_finding ml_X6_66 rfl (by decide) rfl rfl (by decide) rfl (Nat.le_of_ble_eq_true rfl) dX6_gold_22 (fun r s h => co_X6_finding h) (fun r2 s3 => ?_)
    refine mv_sub (lv' := []) [] rfl ?_
    exact vX6_gold_25 hQ s3 r2
  · refine mv_aload_n 0 dX6_gold_10 rfl rfl ?_
    refine mv_iconst (v := 3) dX6_gold_11 ic_3 ?_
    refine mv_iload_n 1 dX6_gold_12 rfl rfl ?_
    refine mv_cVwi (As := [.int (3 : Int32), .int a1]) (st := []) cal_X6_behind ins_X6_behind ml_X6_189 rfl (by decide) rfl rfl (by decide) rfl (Nat.le_of_ble_eq_true rfl) dX6_gold_13 (fun r s h => co_X6_behind h) (fun r4 s5 => ?_)
    refine mv_goto 25 dX6_gold_16 (by decide) ?_
    refine mv_sub (lv' := []) [] rfl ?_
    exact vX6_gold_25 hQ s5 r4
theorem co_X6_gold {l : Launch} {G : mt_G} {fu : Nat} {σ : mt_St} {a1 : Int32} {r : Int32} {σf : mt_St}  (h : fX6_gold fu σ a1 = some (r, σf)) : mt_Con l G yX6_gold cX6_gold 2 (some .int) 7 [.ref (mt_adr G 56), .int a1] σ (some (.int r)) σf :=
  mt_con (by decide) (Nat.le_of_ble_eq_true rfl) (fun K hl hG hQ => by subst hl; subst hG; exact fun _ => vX6_gold  hQ h)
theorem dX6_yearsTo_0 : decode cX6_yearsTo 0 = .ok (.aload_n 0, 1) := by decide +kernel
theorem dX6_yearsTo_1 : decode cX6_yearsTo 1 = .ok (.getfield 9, 3) := by decide +kernel
theorem dX6_yearsTo_4 : decode cX6_yearsTo 4 = .ok (.aload_n 0, 1) := by decide +kernel
theorem dX6_yearsTo_5 : decode cX6_yearsTo 5 = .ok (.getfield 16, 3) := by decide +kernel
theorem dX6_yearsTo_8 : decode cX6_yearsTo 8 = .ok (.invokestatic 61, 3) := by decide +kernel
theorem dX6_yearsTo_11 : decode cX6_yearsTo 11 = .ok (.iconst 0, 1) := by decide +kernel
theorem dX6_yearsTo_12 : decode cX6_yearsTo 12 = .ok (.istore_n 3, 1) := by decide +kernel
theorem dX6_yearsTo_13 : decode cX6_yearsTo 13 = .ok (.iload_n 3, 1) := by decide +kernel
theorem dX6_yearsTo_14 : decode cX6_yearsTo 14 = .ok (.sipush 200, 3) := by decide +kernel
theorem dX6_yearsTo_17 : decode cX6_yearsTo 17 = .ok (.if_icmp .ge 23, 3) := by decide +kernel
theorem dX6_yearsTo_20 : decode cX6_yearsTo 20 = .ok (.aload_n 0, 1) := by decide +kernel
theorem dX6_yearsTo_21 : decode cX6_yearsTo 21 = .ok (.getfield 9, 3) := by decide +kernel
theorem dX6_yearsTo_24 : decode cX6_yearsTo 24 = .ok (.iload_n 1, 1) := by decide +kernel
theorem dX6_yearsTo_25 : decode cX6_yearsTo 25 = .ok (.iaload, 1) := by decide +kernel
theorem dX6_yearsTo_26 : decode cX6_yearsTo 26 = .ok (.iload_n 2, 1) := by decide +kernel
theorem dX6_yearsTo_27 : decode cX6_yearsTo 27 = .ok (.if_icmp .ge 13, 3) := by decide +kernel
theorem dX6_yearsTo_30 : decode cX6_yearsTo 30 = .ok (.aload_n 0, 1) := by decide +kernel
theorem dX6_yearsTo_31 : decode cX6_yearsTo 31 = .ok (.invokevirtual 160, 3) := by decide +kernel
theorem dX6_yearsTo_34 : decode cX6_yearsTo 34 = .ok (.iinc 3 1, 3) := by decide +kernel
theorem dX6_yearsTo_37 : decode cX6_yearsTo 37 = .ok (.goto (-24), 3) := by decide +kernel
theorem dX6_yearsTo_40 : decode cX6_yearsTo 40 = .ok (.aload_n 0, 1) := by decide +kernel
theorem dX6_yearsTo_41 : decode cX6_yearsTo 41 = .ok (.aload_n 0, 1) := by decide +kernel
theorem dX6_yearsTo_42 : decode cX6_yearsTo 42 = .ok (.getfield 9, 3) := by decide +kernel
theorem dX6_yearsTo_45 : decode cX6_yearsTo 45 = .ok (.iload_n 1, 1) := by decide +kernel
theorem dX6_yearsTo_46 : decode cX6_yearsTo 46 = .ok (.iaload, 1) := by decide +kernel
theorem dX6_yearsTo_47 : decode cX6_yearsTo 47 = .ok (.iload_n 2, 1) := by decide +kernel
theorem dX6_yearsTo_48 : decode cX6_yearsTo 48 = .ok (.if_icmp .ge 7, 3) := by decide +kernel
theorem dX6_yearsTo_51 : decode cX6_yearsTo 51 = .ok (.iconst (-1), 1) := by decide +kernel
theorem dX6_yearsTo_52 : decode cX6_yearsTo 52 = .ok (.goto 4, 3) := by decide +kernel
theorem dX6_yearsTo_55 : decode cX6_yearsTo 55 = .ok (.iload_n 3, 1) := by decide +kernel
theorem dX6_yearsTo_56 : decode cX6_yearsTo 56 = .ok (.invokevirtual 186, 3) := by decide +kernel
theorem dX6_yearsTo_59 : decode cX6_yearsTo 59 = .ok (.ireturn, 1) := by decide +kernel
def bX6_yearsTo_56 (fu : Nat) (σ : mt_St) (y0 : Int32) : Option (Int32 × mt_St) :=
  mt_call (fX6_putBack fu σ y0) fun r1 s2 =>
  some (r1, s2)
set_option maxHeartbeats 4000000 in
set_option maxRecDepth 20000 in
theorem vX6_yearsTo_56 {K : mt_C} {fu : Nat} {r : Int32} {σf : mt_St} (hQ : mt_R K (some .int) (some (.int r)) σf) : ∀ (σ : mt_St) (y0 : Int32), mt_V K cX6_yearsTo RX6 4 5 σ 56 [] [.int y0, .ref (mt_adr (kG K) 56)] (bX6_yearsTo_56 fu σ y0 = some (r, σf)) := by
  intro σ y0
  unfold bX6_yearsTo_56
  refine mv_cVwi (As := [.int y0]) (st := []) cal_X6_putBack ins_X6_putBack ml_X6_186 rfl (by decide) rfl rfl (by decide) rfl (Nat.le_of_ble_eq_true rfl) dX6_yearsTo_56 (fun r s h => co_X6_putBack h) (fun r1 s2 => ?_)
  exact mv_iret hQ dX6_yearsTo_59
def bX6_yearsTo_40 (fu : Nat) (σ : mt_St) (x1 : Int32) (x2 : Int32) (x3 : Int32) : Option (Int32 × mt_St) :=
  mt_chk (mt_in x1 86) <|
  if x2 ≤ (σ 57 (Int32.toNatClampNeg x1)) then
    bX6_yearsTo_56 fu σ x3
  else
    bX6_yearsTo_56 fu σ (-1 : Int32)
set_option maxHeartbeats 4000000 in
set_option maxRecDepth 20000 in
theorem vX6_yearsTo_40 {K : mt_C} {fu : Nat} {r : Int32} {σf : mt_St} (hQ : mt_R K (some .int) (some (.int r)) σf) : ∀ (σ : mt_St) (x1 : Int32) (x2 : Int32) (x3 : Int32), mt_V K cX6_yearsTo RX6 4 5 σ 40 [(0, .ref (mt_adr (kG K) 56)), (1, .int x1), (2, .int x2), (3, .int x3)] [] (bX6_yearsTo_40 fu σ x1 x2 x3 = some (r, σf)) := by
  intro σ x1 x2 x3
  unfold bX6_yearsTo_40
  refine mv_aload_n 0 dX6_yearsTo_40 rfl rfl ?_
  refine mv_aload_n 0 dX6_yearsTo_41 rfl rfl ?_
  refine mg_X6_0 fl_X6_9 dX6_yearsTo_42 ?_
  refine mv_iload_n 1 dX6_yearsTo_45 rfl rfl ?_
  refine mv_iald 86 rfl rfl dX6_yearsTo_46 ?_
  refine mv_iload_n 2 dX6_yearsTo_47 rfl rfl ?_
  refine mv_icmp_ge 55 dX6_yearsTo_48 (by decide) ?_ ?_
  · refine mv_iload_n 3 dX6_yearsTo_55 rfl rfl ?_
    refine mv_sub (lv' := []) [] rfl ?_
    exact vX6_yearsTo_56 hQ σ x3
  · refine mv_iconst (v := -1) dX6_yearsTo_51 ic_m1 ?_
    refine mv_goto 56 dX6_yearsTo_52 (by decide) ?_
    refine mv_sub (lv' := []) [] rfl ?_
    exact vX6_yearsTo_56 hQ σ (-1 : Int32)
def bX6_yearsTo_13 (fu : Nat) : Nat → mt_St → Int32 → Int32 → Int32 → Option (Int32 × mt_St)
  | 0, _, _, _, _ => none
  | n + 1, σ, x1, x2, x3 =>
    if (200 : Int32) ≤ x3 then
      bX6_yearsTo_40 fu σ x1 x2 x3
    else
      mt_chk (mt_in x1 86) <|
      if x2 ≤ (σ 57 (Int32.toNatClampNeg x1)) then
        bX6_yearsTo_40 fu σ x1 x2 x3
      else
        mt_call (fX6_year fu σ) fun _ s2 =>
        bX6_yearsTo_13 fu n s2 x1 x2 (x3 + 1)
set_option maxHeartbeats 4000000 in
set_option maxRecDepth 20000 in
theorem vX6_yearsTo_13 {K : mt_C} {fu : Nat} {r : Int32} {σf : mt_St} (hQ : mt_R K (some .int) (some (.int r)) σf) : ∀ (n : Nat) (σ : mt_St) (x1 : Int32) (x2 : Int32) (x3 : Int32), mt_V K cX6_yearsTo RX6 4 5 σ 13 [(0, .ref (mt_adr (kG K) 56)), (1, .int x1), (2, .int x2), (3, .int x3)] [] (bX6_yearsTo_13 fu n σ x1 x2 x3 = some (r, σf)) := by
  intro n
  induction n with
  | zero => intro σ x1 x2 x3; intro hP; unfold bX6_yearsTo_13 at hP; cases hP
  | succ n ih =>
    intro σ x1 x2 x3
    unfold bX6_yearsTo_13
    refine mv_iload_n 3 dX6_yearsTo_13 rfl rfl ?_
    refine mv_sipush (v := 200) dX6_yearsTo_14 sp_200 ?_
    refine mv_icmp_ge 40 dX6_yearsTo_17 (by decide) ?_ ?_
    · exact vX6_yearsTo_40 hQ σ x1 x2 x3
    · refine mv_aload_n 0 dX6_yearsTo_20 rfl rfl ?_
      refine mg_X6_0 fl_X6_9 dX6_yearsTo_21 ?_
      refine mv_iload_n 1 dX6_yearsTo_24 rfl rfl ?_
      refine mv_iald 86 rfl rfl dX6_yearsTo_25 ?_
      refine mv_iload_n 2 dX6_yearsTo_26 rfl rfl ?_
      refine mv_icmp_ge 40 dX6_yearsTo_27 (by decide) ?_ ?_
      · exact vX6_yearsTo_40 hQ σ x1 x2 x3
      · refine mv_aload_n 0 dX6_yearsTo_30 rfl rfl ?_
        refine mv_cVwv (As := []) (st := []) cal_X6_year ins_X6_year ml_X6_160 rfl (by decide) rfl rfl (by decide) rfl (Nat.le_of_ble_eq_true rfl) dX6_yearsTo_31 (fun r s h => co_X6_year h) (fun r1 s2 => ?_)
        refine mv_iinc (k0 := 3) (v := x3 + 1) (lv' := [(0, .ref (mt_adr (kG K) 56)), (1, .int x1), (2, .int x2), (3, .int (x3 + 1))]) [1, 2, 3, 0] dX6_yearsTo_34 rfl (mt_inc ic_1) (by decide) rfl ?_
        refine mv_goto 13 dX6_yearsTo_37 (by decide) ?_
        exact ih s2 x1 x2 (x3 + 1)
def fX6_yearsTo (fu : Nat) (σ : mt_St) (a1 : Int32) (a2 : Int32) : Option (Int32 × mt_St) :=
  mt_call (fX6_copyRow fu σ 57 59) fun _ s2 =>
  bX6_yearsTo_13 fu fu s2 a1 a2 (0 : Int32)
set_option maxHeartbeats 4000000 in
set_option maxRecDepth 20000 in
theorem vX6_yearsTo {K : mt_C} {fu : Nat} {σ : mt_St} {a1 : Int32} {a2 : Int32} {r : Int32} {σf : mt_St} (hQ : mt_R K (some .int) (some (.int r)) σf) : mt_V K cX6_yearsTo RX6 4 5 σ 0 [(0, .ref (mt_adr (kG K) 56)), (1, .int a1), (2, .int a2)] [] (fX6_yearsTo fu σ a1 a2 = some (r, σf)) := by
  unfold fX6_yearsTo
  refine mv_aload_n 0 dX6_yearsTo_0 rfl rfl ?_
  refine mg_X6_0 fl_X6_9 dX6_yearsTo_1 ?_
  refine mv_aload_n 0 dX6_yearsTo_4 rfl rfl ?_
  refine mg_X6_2 fl_X6_16 dX6_yearsTo_5 ?_
  refine mv_cSwv (As := [.ref (mt_adr (kG K) 57), .ref (mt_adr (kG K) 59)]) (st := []) cal_X6_copyRow sta_X6_copyRow ml_X6_61 rfl (by decide) rfl (Nat.le_of_ble_eq_true rfl) dX6_yearsTo_8 (fun r s h => co_X6_copyRow rfl rfl rfl rfl h) (fun r1 s2 => ?_)
  refine mv_iconst (v := 0) dX6_yearsTo_11 ic_0 ?_
  refine mv_istore_n (lv' := [(0, .ref (mt_adr (kG K) 56)), (1, .int a1), (2, .int a2), (3, .int (0 : Int32))]) [1, 2, 3, 0] dX6_yearsTo_12 rfl (by decide) rfl ?_
  exact vX6_yearsTo_13 hQ fu s2 a1 a2 (0 : Int32)
theorem co_X6_yearsTo {l : Launch} {G : mt_G} {fu : Nat} {σ : mt_St} {a1 : Int32} {a2 : Int32} {r : Int32} {σf : mt_St}  (h : fX6_yearsTo fu σ a1 a2 = some (r, σf)) : mt_Con l G yX6_yearsTo cX6_yearsTo 4 (some .int) 5 [.ref (mt_adr G 56), .int a1, .int a2] σ (some (.int r)) σf :=
  mt_con (by decide) (Nat.le_of_ble_eq_true rfl) (fun K hl hG hQ => by subst hl; subst hG; exact fun _ => vX6_yearsTo  hQ h)
theorem dX6_breaks_0 : decode cX6_breaks 0 = .ok (.aload_n 0, 1) := by decide +kernel
theorem dX6_breaks_1 : decode cX6_breaks 1 = .ok (.iload_n 1, 1) := by decide +kernel
theorem dX6_breaks_2 : decode cX6_breaks 2 = .ok (.invokevirtual 120, 3) := by decide +kernel
theorem dX6_breaks_5 : decode cX6_breaks 5 = .ok (.ifCond .eq 29, 3) := by decide +kernel
theorem dX6_breaks_8 : decode cX6_breaks 8 = .ok (.aload_n 0, 1) := by decide +kernel
theorem dX6_breaks_9 : decode cX6_breaks 9 = .ok (.aload_n 0, 1) := by decide +kernel
theorem dX6_breaks_10 : decode cX6_breaks 10 = .ok (.iload_n 1, 1) := by decide +kernel
theorem dX6_breaks_11 : decode cX6_breaks 11 = .ok (.bipush 7, 2) := by decide +kernel
theorem dX6_breaks_13 : decode cX6_breaks 13 = .ok (.invokestatic 85, 3) := by decide +kernel
theorem dX6_breaks_16 : decode cX6_breaks 16 = .ok (.aload_n 0, 1) := by decide +kernel
theorem dX6_breaks_17 : decode cX6_breaks 17 = .ok (.iload_n 1, 1) := by decide +kernel
theorem dX6_breaks_18 : decode cX6_breaks 18 = .ok (.bipush 7, 2) := by decide +kernel
theorem dX6_breaks_20 : decode cX6_breaks 20 = .ok (.invokevirtual 99, 3) := by decide +kernel
theorem dX6_breaks_23 : decode cX6_breaks 23 = .ok (.iconst 1, 1) := by decide +kernel
theorem dX6_breaks_24 : decode cX6_breaks 24 = .ok (.iadd, 1) := by decide +kernel
theorem dX6_breaks_25 : decode cX6_breaks 25 = .ok (.invokevirtual 192, 3) := by decide +kernel
theorem dX6_breaks_28 : decode cX6_breaks 28 = .ok (.invokevirtual 195, 3) := by decide +kernel
theorem dX6_breaks_31 : decode cX6_breaks 31 = .ok (.goto 9, 3) := by decide +kernel
theorem dX6_breaks_34 : decode cX6_breaks 34 = .ok (.aload_n 0, 1) := by decide +kernel
theorem dX6_breaks_35 : decode cX6_breaks 35 = .ok (.ldc 60, 2) := by decide +kernel
theorem dX6_breaks_37 : decode cX6_breaks 37 = .ok (.invokevirtual 66, 3) := by decide +kernel
theorem dX6_breaks_40 : decode cX6_breaks 40 = .ok (.ireturn, 1) := by decide +kernel
def bX6_breaks_40 (fu : Nat) (σ : mt_St) (y0 : Int32) : Option (Int32 × mt_St) :=
  some (y0, σ)
set_option maxHeartbeats 4000000 in
set_option maxRecDepth 20000 in
theorem vX6_breaks_40 {K : mt_C} {fu : Nat} {r : Int32} {σf : mt_St} (hQ : mt_R K (some .int) (some (.int r)) σf) : ∀ (σ : mt_St) (y0 : Int32), mt_V K cX6_breaks RX6 2 6 σ 40 [] [.int y0] (bX6_breaks_40 fu σ y0 = some (r, σf)) := by
  intro σ y0
  unfold bX6_breaks_40
  exact mv_iret hQ dX6_breaks_40
def fX6_breaks (fu : Nat) (σ : mt_St) (a1 : Int32) : Option (Int32 × mt_St) :=
  mt_ask (fX6_isTreaty fu σ a1) fun r1 =>
  if r1 = 0 then
    mt_call (fX6_finding fu σ (-1000001 : Int32)) fun r2 s3 =>
    bX6_breaks_40 fu s3 r2
  else
    mt_ask (fX6_treatyAt fu a1 (7 : Int32)) fun r4 =>
    mt_ask (fX6_treatyIs fu σ a1 (7 : Int32)) fun r5 =>
    mt_call (fX6_yearsTo fu σ r4 (r5 + (1 : Int32))) fun r6 s7 =>
    mt_call (fX6_orNone fu s7 r6) fun r8 s9 =>
    bX6_breaks_40 fu s9 r8
set_option maxHeartbeats 4000000 in
set_option maxRecDepth 20000 in
theorem vX6_breaks {K : mt_C} {fu : Nat} {σ : mt_St} {a1 : Int32} {r : Int32} {σf : mt_St} (hQ : mt_R K (some .int) (some (.int r)) σf) : mt_V K cX6_breaks RX6 2 6 σ 0 [(0, .ref (mt_adr (kG K) 56)), (1, .int a1)] [] (fX6_breaks fu σ a1 = some (r, σf)) := by
  unfold fX6_breaks
  refine mv_aload_n 0 dX6_breaks_0 rfl rfl ?_
  refine mv_iload_n 1 dX6_breaks_1 rfl rfl ?_
  refine mv_cVri (As := [.int a1]) (st := []) cal_X6_isTreaty ins_X6_isTreaty ml_X6_120 rfl (by decide) rfl rfl (by decide) rfl (Nat.le_of_ble_eq_true rfl) dX6_breaks_2 (fun r h => co_X6_isTreaty h) (fun r1 => ?_)
  refine mv_if_eq 34 dX6_breaks_5 (by decide) ?_ ?_
  · refine mv_aload_n 0 dX6_breaks_34 rfl rfl ?_
    refine mv_ldc kc_X6_60 dX6_breaks_35 ?_
    refine mv_cVwi (As := [.int (-1000001 : Int32)]) (st := []) cal_X6_finding ins_X6_finding ml_X6_66 rfl (by decide) rfl rfl (by decide) rfl (Nat.le_of_ble_eq_true rfl) dX6_breaks_37 (fun r s h => co_X6_finding h) (fun r2 s3 => ?_)
    refine mv_sub (lv' := []) [] rfl ?_
    exact vX6_breaks_40 hQ s3 r2
  · refine mv_aload_n 0 dX6_breaks_8 rfl rfl ?_
    refine mv_aload_n 0 dX6_breaks_9 rfl rfl ?_
    refine mv_iload_n 1 dX6_breaks_10 rfl rfl ?_
    refine mv_bipush (v := 7) dX6_breaks_11 bp_7 ?_
    refine mv_cSri (As := [.int a1, .int (7 : Int32)]) (st := [.ref (mt_adr (kG K) 56), .ref (mt_adr (kG K) 56)]) cal_X6_treatyAt sta_X6_treatyAt ml_X6_85 rfl (by decide) rfl (Nat.le_of_ble_eq_true rfl) dX6_breaks_13 (fun r h => co_X6_treatyAt h) (fun r4 => ?_)
    refine mv_aload_n 0 dX6_breaks_16 rfl rfl ?_
    refine mv_iload_n 1 dX6_breaks_17 rfl rfl ?_
    refine mv_bipush (v := 7) dX6_breaks_18 bp_7 ?_
    refine mv_cVri (As := [.int a1, .int (7 : Int32)]) (st := [.int r4, .ref (mt_adr (kG K) 56), .ref (mt_adr (kG K) 56)]) cal_X6_treatyIs ins_X6_treatyIs ml_X6_99 rfl (by decide) rfl rfl (by decide) rfl (Nat.le_of_ble_eq_true rfl) dX6_breaks_20 (fun r h => co_X6_treatyIs h) (fun r5 => ?_)
    refine mv_iconst (v := 1) dX6_breaks_23 ic_1 ?_
    refine mv_iadd dX6_breaks_24 ?_
    refine mv_cVwi (As := [.int r4, .int (r5 + (1 : Int32))]) (st := [.ref (mt_adr (kG K) 56)]) cal_X6_yearsTo ins_X6_yearsTo ml_X6_192 rfl (by decide) rfl rfl (by decide) rfl (Nat.le_of_ble_eq_true rfl) dX6_breaks_25 (fun r s h => co_X6_yearsTo h) (fun r6 s7 => ?_)
    refine mv_cVwi (As := [.int r6]) (st := []) cal_X6_orNone ins_X6_orNone ml_X6_195 rfl (by decide) rfl rfl (by decide) rfl (Nat.le_of_ble_eq_true rfl) dX6_breaks_28 (fun r s h => co_X6_orNone h) (fun r8 s9 => ?_)
    refine mv_goto 40 dX6_breaks_31 (by decide) ?_
    refine mv_sub (lv' := []) [] rfl ?_
    exact vX6_breaks_40 hQ s9 r8
theorem co_X6_breaks {l : Launch} {G : mt_G} {fu : Nat} {σ : mt_St} {a1 : Int32} {r : Int32} {σf : mt_St}  (h : fX6_breaks fu σ a1 = some (r, σf)) : mt_Con l G yX6_breaks cX6_breaks 2 (some .int) 6 [.ref (mt_adr G 56), .int a1] σ (some (.int r)) σf :=
  mt_con (by decide) (Nat.le_of_ble_eq_true rfl) (fun K hl hG hQ => by subst hl; subst hG; exact fun _ => vX6_breaks  hQ h)
theorem dX6_war_0 : decode cX6_war 0 = .ok (.iload_n 1, 1) := by decide +kernel
theorem dX6_war_1 : decode cX6_war 1 = .ok (.invokestatic 91, 3) := by decide +kernel
theorem dX6_war_4 : decode cX6_war 4 = .ok (.ifCond .eq 15, 3) := by decide +kernel
theorem dX6_war_7 : decode cX6_war 7 = .ok (.iload_n 2, 1) := by decide +kernel
theorem dX6_war_8 : decode cX6_war 8 = .ok (.invokestatic 91, 3) := by decide +kernel
theorem dX6_war_11 : decode cX6_war 11 = .ok (.ifCond .eq 8, 3) := by decide +kernel
theorem dX6_war_14 : decode cX6_war 14 = .ok (.iload_n 1, 1) := by decide +kernel
theorem dX6_war_15 : decode cX6_war 15 = .ok (.iload_n 2, 1) := by decide +kernel
theorem dX6_war_16 : decode cX6_war 16 = .ok (.if_icmp .ne 10, 3) := by decide +kernel
theorem dX6_war_19 : decode cX6_war 19 = .ok (.aload_n 0, 1) := by decide +kernel
theorem dX6_war_20 : decode cX6_war 20 = .ok (.ldc 60, 2) := by decide +kernel
theorem dX6_war_22 : decode cX6_war 22 = .ok (.invokevirtual 66, 3) := by decide +kernel
theorem dX6_war_25 : decode cX6_war 25 = .ok (.ireturn, 1) := by decide +kernel
theorem dX6_war_26 : decode cX6_war 26 = .ok (.aload_n 0, 1) := by decide +kernel
theorem dX6_war_27 : decode cX6_war 27 = .ok (.getfield 9, 3) := by decide +kernel
theorem dX6_war_30 : decode cX6_war 30 = .ok (.aload_n 0, 1) := by decide +kernel
theorem dX6_war_31 : decode cX6_war 31 = .ok (.getfield 16, 3) := by decide +kernel
theorem dX6_war_34 : decode cX6_war 34 = .ok (.invokestatic 61, 3) := by decide +kernel
theorem dX6_war_37 : decode cX6_war 37 = .ok (.iconst 0, 1) := by decide +kernel
theorem dX6_war_38 : decode cX6_war 38 = .ok (.istore_n 3, 1) := by decide +kernel
theorem dX6_war_39 : decode cX6_war 39 = .ok (.iload_n 3, 1) := by decide +kernel
theorem dX6_war_40 : decode cX6_war 40 = .ok (.sipush 200, 3) := by decide +kernel
theorem dX6_war_43 : decode cX6_war 43 = .ok (.if_icmp .ge 22, 3) := by decide +kernel
theorem dX6_war_46 : decode cX6_war 46 = .ok (.aload_n 0, 1) := by decide +kernel
theorem dX6_war_47 : decode cX6_war 47 = .ok (.iload_n 1, 1) := by decide +kernel
theorem dX6_war_48 : decode cX6_war 48 = .ok (.iload_n 2, 1) := by decide +kernel
theorem dX6_war_49 : decode cX6_war 49 = .ok (.invokevirtual 132, 3) := by decide +kernel
theorem dX6_war_52 : decode cX6_war 52 = .ok (.ifCond .ne 13, 3) := by decide +kernel
theorem dX6_war_55 : decode cX6_war 55 = .ok (.aload_n 0, 1) := by decide +kernel
theorem dX6_war_56 : decode cX6_war 56 = .ok (.invokevirtual 160, 3) := by decide +kernel
theorem dX6_war_59 : decode cX6_war 59 = .ok (.iinc 3 1, 3) := by decide +kernel
theorem dX6_war_62 : decode cX6_war 62 = .ok (.goto (-23), 3) := by decide +kernel
theorem dX6_war_65 : decode cX6_war 65 = .ok (.aload_n 0, 1) := by decide +kernel
theorem dX6_war_66 : decode cX6_war 66 = .ok (.aload_n 0, 1) := by decide +kernel
theorem dX6_war_67 : decode cX6_war 67 = .ok (.aload_n 0, 1) := by decide +kernel
theorem dX6_war_68 : decode cX6_war 68 = .ok (.iload_n 1, 1) := by decide +kernel
theorem dX6_war_69 : decode cX6_war 69 = .ok (.iload_n 2, 1) := by decide +kernel
theorem dX6_war_70 : decode cX6_war 70 = .ok (.invokevirtual 132, 3) := by decide +kernel
theorem dX6_war_73 : decode cX6_war 73 = .ok (.ifCond .eq 7, 3) := by decide +kernel
theorem dX6_war_76 : decode cX6_war 76 = .ok (.iload_n 3, 1) := by decide +kernel
theorem dX6_war_77 : decode cX6_war 77 = .ok (.goto 4, 3) := by decide +kernel
theorem dX6_war_80 : decode cX6_war 80 = .ok (.iconst (-1), 1) := by decide +kernel
theorem dX6_war_81 : decode cX6_war 81 = .ok (.invokevirtual 186, 3) := by decide +kernel
theorem dX6_war_84 : decode cX6_war 84 = .ok (.invokevirtual 195, 3) := by decide +kernel
theorem dX6_war_87 : decode cX6_war 87 = .ok (.ireturn, 1) := by decide +kernel
def bX6_war_81 (fu : Nat) (σ : mt_St) (y0 : Int32) : Option (Int32 × mt_St) :=
  mt_call (fX6_putBack fu σ y0) fun r1 s2 =>
  mt_call (fX6_orNone fu s2 r1) fun r3 s4 =>
  some (r3, s4)
set_option maxHeartbeats 4000000 in
set_option maxRecDepth 20000 in
theorem vX6_war_81 {K : mt_C} {fu : Nat} {r : Int32} {σf : mt_St} (hQ : mt_R K (some .int) (some (.int r)) σf) : ∀ (σ : mt_St) (y0 : Int32), mt_V K cX6_war RX6 4 5 σ 81 [] [.int y0, .ref (mt_adr (kG K) 56), .ref (mt_adr (kG K) 56)] (bX6_war_81 fu σ y0 = some (r, σf)) := by
  intro σ y0
  unfold bX6_war_81
  refine mv_cVwi (As := [.int y0]) (st := [.ref (mt_adr (kG K) 56)]) cal_X6_putBack ins_X6_putBack ml_X6_186 rfl (by decide) rfl rfl (by decide) rfl (Nat.le_of_ble_eq_true rfl) dX6_war_81 (fun r s h => co_X6_putBack h) (fun r1 s2 => ?_)
  refine mv_cVwi (As := [.int r1]) (st := []) cal_X6_orNone ins_X6_orNone ml_X6_195 rfl (by decide) rfl rfl (by decide) rfl (Nat.le_of_ble_eq_true rfl) dX6_war_84 (fun r s h => co_X6_orNone h) (fun r3 s4 => ?_)
  exact mv_iret hQ dX6_war_87
def bX6_war_65 (fu : Nat) (σ : mt_St) (x1 : Int32) (x2 : Int32) (x3 : Int32) : Option (Int32 × mt_St) :=
  mt_ask (fX6_isWar fu σ x1 x2) fun r1 =>
  if r1 = 0 then
    bX6_war_81 fu σ (-1 : Int32)
  else
    bX6_war_81 fu σ x3
set_option maxHeartbeats 4000000 in
set_option maxRecDepth 20000 in
theorem vX6_war_65 {K : mt_C} {fu : Nat} {r : Int32} {σf : mt_St} (hQ : mt_R K (some .int) (some (.int r)) σf) : ∀ (σ : mt_St) (x1 : Int32) (x2 : Int32) (x3 : Int32), mt_V K cX6_war RX6 4 5 σ 65 [(0, .ref (mt_adr (kG K) 56)), (1, .int x1), (2, .int x2), (3, .int x3)] [] (bX6_war_65 fu σ x1 x2 x3 = some (r, σf)) := by
  intro σ x1 x2 x3
  unfold bX6_war_65
  refine mv_aload_n 0 dX6_war_65 rfl rfl ?_
  refine mv_aload_n 0 dX6_war_66 rfl rfl ?_
  refine mv_aload_n 0 dX6_war_67 rfl rfl ?_
  refine mv_iload_n 1 dX6_war_68 rfl rfl ?_
  refine mv_iload_n 2 dX6_war_69 rfl rfl ?_
  refine mv_cVri (As := [.int x1, .int x2]) (st := [.ref (mt_adr (kG K) 56), .ref (mt_adr (kG K) 56)]) cal_X6_isWar ins_X6_isWar ml_X6_132 rfl (by decide) rfl rfl (by decide) rfl (Nat.le_of_ble_eq_true rfl) dX6_war_70 (fun r h => co_X6_isWar h) (fun r1 => ?_)
  refine mv_if_eq 80 dX6_war_73 (by decide) ?_ ?_
  · refine mv_iconst (v := -1) dX6_war_80 ic_m1 ?_
    refine mv_sub (lv' := []) [] rfl ?_
    exact vX6_war_81 hQ σ (-1 : Int32)
  · refine mv_iload_n 3 dX6_war_76 rfl rfl ?_
    refine mv_goto 81 dX6_war_77 (by decide) ?_
    refine mv_sub (lv' := []) [] rfl ?_
    exact vX6_war_81 hQ σ x3
def bX6_war_39 (fu : Nat) : Nat → mt_St → Int32 → Int32 → Int32 → Option (Int32 × mt_St)
  | 0, _, _, _, _ => none
  | n + 1, σ, x1, x2, x3 =>
    if (200 : Int32) ≤ x3 then
      bX6_war_65 fu σ x1 x2 x3
    else
      mt_ask (fX6_isWar fu σ x1 x2) fun r1 =>
      if r1 = 0 then
        mt_call (fX6_year fu σ) fun _ s3 =>
        bX6_war_39 fu n s3 x1 x2 (x3 + 1)
      else
        bX6_war_65 fu σ x1 x2 x3
set_option maxHeartbeats 4000000 in
set_option maxRecDepth 20000 in
theorem vX6_war_39 {K : mt_C} {fu : Nat} {r : Int32} {σf : mt_St} (hQ : mt_R K (some .int) (some (.int r)) σf) : ∀ (n : Nat) (σ : mt_St) (x1 : Int32) (x2 : Int32) (x3 : Int32), mt_V K cX6_war RX6 4 5 σ 39 [(0, .ref (mt_adr (kG K) 56)), (1, .int x1), (2, .int x2), (3, .int x3)] [] (bX6_war_39 fu n σ x1 x2 x3 = some (r, σf)) := by
  intro n
  induction n with
  | zero => intro σ x1 x2 x3; intro hP; unfold bX6_war_39 at hP; cases hP
  | succ n ih =>
    intro σ x1 x2 x3
    unfold bX6_war_39
    refine mv_iload_n 3 dX6_war_39 rfl rfl ?_
    refine mv_sipush (v := 200) dX6_war_40 sp_200 ?_
    refine mv_icmp_ge 65 dX6_war_43 (by decide) ?_ ?_
    · exact vX6_war_65 hQ σ x1 x2 x3
    · refine mv_aload_n 0 dX6_war_46 rfl rfl ?_
      refine mv_iload_n 1 dX6_war_47 rfl rfl ?_
      refine mv_iload_n 2 dX6_war_48 rfl rfl ?_
      refine mv_cVri (As := [.int x1, .int x2]) (st := []) cal_X6_isWar ins_X6_isWar ml_X6_132 rfl (by decide) rfl rfl (by decide) rfl (Nat.le_of_ble_eq_true rfl) dX6_war_49 (fun r h => co_X6_isWar h) (fun r1 => ?_)
      refine mv_if_ne 65 dX6_war_52 (by decide) ?_ ?_
      · exact vX6_war_65 hQ σ x1 x2 x3
      · refine mv_aload_n 0 dX6_war_55 rfl rfl ?_
        refine mv_cVwv (As := []) (st := []) cal_X6_year ins_X6_year ml_X6_160 rfl (by decide) rfl rfl (by decide) rfl (Nat.le_of_ble_eq_true rfl) dX6_war_56 (fun r s h => co_X6_year h) (fun r2 s3 => ?_)
        refine mv_iinc (k0 := 3) (v := x3 + 1) (lv' := [(0, .ref (mt_adr (kG K) 56)), (1, .int x1), (2, .int x2), (3, .int (x3 + 1))]) [1, 2, 3, 0] dX6_war_59 rfl (mt_inc ic_1) (by decide) rfl ?_
        refine mv_goto 39 dX6_war_62 (by decide) ?_
        exact ih s3 x1 x2 (x3 + 1)
def bX6_war_19 (fu : Nat) (σ : mt_St) : Option (Int32 × mt_St) :=
  mt_call (fX6_finding fu σ (-1000001 : Int32)) fun r1 s2 =>
  some (r1, s2)
set_option maxHeartbeats 4000000 in
set_option maxRecDepth 20000 in
theorem vX6_war_19 {K : mt_C} {fu : Nat} {r : Int32} {σf : mt_St} (hQ : mt_R K (some .int) (some (.int r)) σf) : ∀ (σ : mt_St), mt_V K cX6_war RX6 4 5 σ 19 [(0, .ref (mt_adr (kG K) 56))] [] (bX6_war_19 fu σ = some (r, σf)) := by
  intro σ
  unfold bX6_war_19
  refine mv_aload_n 0 dX6_war_19 rfl rfl ?_
  refine mv_ldc kc_X6_60 dX6_war_20 ?_
  refine mv_cVwi (As := [.int (-1000001 : Int32)]) (st := []) cal_X6_finding ins_X6_finding ml_X6_66 rfl (by decide) rfl rfl (by decide) rfl (Nat.le_of_ble_eq_true rfl) dX6_war_22 (fun r s h => co_X6_finding h) (fun r1 s2 => ?_)
  exact mv_iret hQ dX6_war_25
def fX6_war (fu : Nat) (σ : mt_St) (a1 : Int32) (a2 : Int32) : Option (Int32 × mt_St) :=
  mt_ask (fX6_isPower fu a1) fun r1 =>
  if r1 = 0 then
    bX6_war_19 fu σ
  else
    mt_ask (fX6_isPower fu a2) fun r2 =>
    if r2 = 0 then
      bX6_war_19 fu σ
    else
      if a1 = a2 then
        bX6_war_19 fu σ
      else
        mt_call (fX6_copyRow fu σ 57 59) fun _ s4 =>
        bX6_war_39 fu fu s4 a1 a2 (0 : Int32)
set_option maxHeartbeats 4000000 in
set_option maxRecDepth 20000 in
theorem vX6_war {K : mt_C} {fu : Nat} {σ : mt_St} {a1 : Int32} {a2 : Int32} {r : Int32} {σf : mt_St} (hQ : mt_R K (some .int) (some (.int r)) σf) : mt_V K cX6_war RX6 4 5 σ 0 [(0, .ref (mt_adr (kG K) 56)), (1, .int a1), (2, .int a2)] [] (fX6_war fu σ a1 a2 = some (r, σf)) := by
  unfold fX6_war
  refine mv_iload_n 1 dX6_war_0 rfl rfl ?_
  refine mv_cSri (As := [.int a1]) (st := []) cal_X6_isPower sta_X6_isPower ml_X6_91 rfl (by decide) rfl (Nat.le_of_ble_eq_true rfl) dX6_war_1 (fun r h => co_X6_isPower h) (fun r1 => ?_)
  refine mv_if_eq 19 dX6_war_4 (by decide) ?_ ?_
  · refine mv_sub (lv' := [(0, .ref (mt_adr (kG K) 56))]) [0] rfl ?_
    exact vX6_war_19 hQ σ
  · refine mv_iload_n 2 dX6_war_7 rfl rfl ?_
    refine mv_cSri (As := [.int a2]) (st := []) cal_X6_isPower sta_X6_isPower ml_X6_91 rfl (by decide) rfl (Nat.le_of_ble_eq_true rfl) dX6_war_8 (fun r h => co_X6_isPower h) (fun r2 => ?_)
    refine mv_if_eq 19 dX6_war_11 (by decide) ?_ ?_
    · refine mv_sub (lv' := [(0, .ref (mt_adr (kG K) 56))]) [0] rfl ?_
      exact vX6_war_19 hQ σ
    · refine mv_iload_n 1 dX6_war_14 rfl rfl ?_
      refine mv_iload_n 2 dX6_war_15 rfl rfl ?_
      refine mv_icmp_ne 26 dX6_war_16 (by decide) ?_ ?_
      · refine mv_aload_n 0 dX6_war_26 rfl rfl ?_
        refine mg_X6_0 fl_X6_9 dX6_war_27 ?_
        refine mv_aload_n 0 dX6_war_30 rfl rfl ?_
        refine mg_X6_2 fl_X6_16 dX6_war_31 ?_
        refine mv_cSwv (As := [.ref (mt_adr (kG K) 57), .ref (mt_adr (kG K) 59)]) (st := []) cal_X6_copyRow sta_X6_copyRow ml_X6_61 rfl (by decide) rfl (Nat.le_of_ble_eq_true rfl) dX6_war_34 (fun r s h => co_X6_copyRow rfl rfl rfl rfl h) (fun r3 s4 => ?_)
        refine mv_iconst (v := 0) dX6_war_37 ic_0 ?_
        refine mv_istore_n (lv' := [(0, .ref (mt_adr (kG K) 56)), (1, .int a1), (2, .int a2), (3, .int (0 : Int32))]) [1, 2, 3, 0] dX6_war_38 rfl (by decide) rfl ?_
        exact vX6_war_39 hQ fu s4 a1 a2 (0 : Int32)
      · refine mv_sub (lv' := [(0, .ref (mt_adr (kG K) 56))]) [0] rfl ?_
        exact vX6_war_19 hQ σ
theorem co_X6_war {l : Launch} {G : mt_G} {fu : Nat} {σ : mt_St} {a1 : Int32} {a2 : Int32} {r : Int32} {σf : mt_St}  (h : fX6_war fu σ a1 a2 = some (r, σf)) : mt_Con l G yX6_war cX6_war 4 (some .int) 5 [.ref (mt_adr G 56), .int a1, .int a2] σ (some (.int r)) σf :=
  mt_con (by decide) (Nat.le_of_ble_eq_true rfl) (fun K hl hG hQ => by subst hl; subst hG; exact fun _ => vX6_war  hQ h)
theorem dX6_peace_0 : decode cX6_peace 0 = .ok (.aload_n 0, 1) := by decide +kernel
theorem dX6_peace_1 : decode cX6_peace 1 = .ok (.getfield 9, 3) := by decide +kernel
theorem dX6_peace_4 : decode cX6_peace 4 = .ok (.aload_n 0, 1) := by decide +kernel
theorem dX6_peace_5 : decode cX6_peace 5 = .ok (.getfield 16, 3) := by decide +kernel
theorem dX6_peace_8 : decode cX6_peace 8 = .ok (.invokestatic 61, 3) := by decide +kernel
theorem dX6_peace_11 : decode cX6_peace 11 = .ok (.iconst 0, 1) := by decide +kernel
theorem dX6_peace_12 : decode cX6_peace 12 = .ok (.istore_n 1, 1) := by decide +kernel
theorem dX6_peace_13 : decode cX6_peace 13 = .ok (.iload_n 1, 1) := by decide +kernel
theorem dX6_peace_14 : decode cX6_peace 14 = .ok (.sipush 200, 3) := by decide +kernel
theorem dX6_peace_17 : decode cX6_peace 17 = .ok (.if_icmp .ge 20, 3) := by decide +kernel
theorem dX6_peace_20 : decode cX6_peace 20 = .ok (.aload_n 0, 1) := by decide +kernel
theorem dX6_peace_21 : decode cX6_peace 21 = .ok (.invokevirtual 174, 3) := by decide +kernel
theorem dX6_peace_24 : decode cX6_peace 24 = .ok (.ifCond .le 13, 3) := by decide +kernel
theorem dX6_peace_27 : decode cX6_peace 27 = .ok (.aload_n 0, 1) := by decide +kernel
theorem dX6_peace_28 : decode cX6_peace 28 = .ok (.invokevirtual 160, 3) := by decide +kernel
theorem dX6_peace_31 : decode cX6_peace 31 = .ok (.iinc 1 1, 3) := by decide +kernel
theorem dX6_peace_34 : decode cX6_peace 34 = .ok (.goto (-21), 3) := by decide +kernel
theorem dX6_peace_37 : decode cX6_peace 37 = .ok (.aload_n 0, 1) := by decide +kernel
theorem dX6_peace_38 : decode cX6_peace 38 = .ok (.aload_n 0, 1) := by decide +kernel
theorem dX6_peace_39 : decode cX6_peace 39 = .ok (.aload_n 0, 1) := by decide +kernel
theorem dX6_peace_40 : decode cX6_peace 40 = .ok (.invokevirtual 174, 3) := by decide +kernel
theorem dX6_peace_43 : decode cX6_peace 43 = .ok (.ifCond .le 7, 3) := by decide +kernel
theorem dX6_peace_46 : decode cX6_peace 46 = .ok (.iconst (-1), 1) := by decide +kernel
theorem dX6_peace_47 : decode cX6_peace 47 = .ok (.goto 4, 3) := by decide +kernel
theorem dX6_peace_50 : decode cX6_peace 50 = .ok (.iload_n 1, 1) := by decide +kernel
theorem dX6_peace_51 : decode cX6_peace 51 = .ok (.invokevirtual 186, 3) := by decide +kernel
theorem dX6_peace_54 : decode cX6_peace 54 = .ok (.invokevirtual 195, 3) := by decide +kernel
theorem dX6_peace_57 : decode cX6_peace 57 = .ok (.ireturn, 1) := by decide +kernel
def bX6_peace_51 (fu : Nat) (σ : mt_St) (y0 : Int32) : Option (Int32 × mt_St) :=
  mt_call (fX6_putBack fu σ y0) fun r1 s2 =>
  mt_call (fX6_orNone fu s2 r1) fun r3 s4 =>
  some (r3, s4)
set_option maxHeartbeats 4000000 in
set_option maxRecDepth 20000 in
theorem vX6_peace_51 {K : mt_C} {fu : Nat} {r : Int32} {σf : mt_St} (hQ : mt_R K (some .int) (some (.int r)) σf) : ∀ (σ : mt_St) (y0 : Int32), mt_V K cX6_peace RX6 2 5 σ 51 [] [.int y0, .ref (mt_adr (kG K) 56), .ref (mt_adr (kG K) 56)] (bX6_peace_51 fu σ y0 = some (r, σf)) := by
  intro σ y0
  unfold bX6_peace_51
  refine mv_cVwi (As := [.int y0]) (st := [.ref (mt_adr (kG K) 56)]) cal_X6_putBack ins_X6_putBack ml_X6_186 rfl (by decide) rfl rfl (by decide) rfl (Nat.le_of_ble_eq_true rfl) dX6_peace_51 (fun r s h => co_X6_putBack h) (fun r1 s2 => ?_)
  refine mv_cVwi (As := [.int r1]) (st := []) cal_X6_orNone ins_X6_orNone ml_X6_195 rfl (by decide) rfl rfl (by decide) rfl (Nat.le_of_ble_eq_true rfl) dX6_peace_54 (fun r s h => co_X6_orNone h) (fun r3 s4 => ?_)
  exact mv_iret hQ dX6_peace_57
def bX6_peace_37 (fu : Nat) (σ : mt_St) (x1 : Int32) : Option (Int32 × mt_St) :=
  mt_ask (fX6_pairsAtWar fu σ) fun r1 =>
  if r1 ≤ 0 then
    bX6_peace_51 fu σ x1
  else
    bX6_peace_51 fu σ (-1 : Int32)
set_option maxHeartbeats 4000000 in
set_option maxRecDepth 20000 in
theorem vX6_peace_37 {K : mt_C} {fu : Nat} {r : Int32} {σf : mt_St} (hQ : mt_R K (some .int) (some (.int r)) σf) : ∀ (σ : mt_St) (x1 : Int32), mt_V K cX6_peace RX6 2 5 σ 37 [(0, .ref (mt_adr (kG K) 56)), (1, .int x1)] [] (bX6_peace_37 fu σ x1 = some (r, σf)) := by
  intro σ x1
  unfold bX6_peace_37
  refine mv_aload_n 0 dX6_peace_37 rfl rfl ?_
  refine mv_aload_n 0 dX6_peace_38 rfl rfl ?_
  refine mv_aload_n 0 dX6_peace_39 rfl rfl ?_
  refine mv_cVri (As := []) (st := [.ref (mt_adr (kG K) 56), .ref (mt_adr (kG K) 56)]) cal_X6_pairsAtWar ins_X6_pairsAtWar ml_X6_174 rfl (by decide) rfl rfl (by decide) rfl (Nat.le_of_ble_eq_true rfl) dX6_peace_40 (fun r h => co_X6_pairsAtWar h) (fun r1 => ?_)
  refine mv_if_le 50 dX6_peace_43 (by decide) ?_ ?_
  · refine mv_iload_n 1 dX6_peace_50 rfl rfl ?_
    refine mv_sub (lv' := []) [] rfl ?_
    exact vX6_peace_51 hQ σ x1
  · refine mv_iconst (v := -1) dX6_peace_46 ic_m1 ?_
    refine mv_goto 51 dX6_peace_47 (by decide) ?_
    refine mv_sub (lv' := []) [] rfl ?_
    exact vX6_peace_51 hQ σ (-1 : Int32)
def bX6_peace_13 (fu : Nat) : Nat → mt_St → Int32 → Option (Int32 × mt_St)
  | 0, _, _ => none
  | n + 1, σ, x1 =>
    if (200 : Int32) ≤ x1 then
      bX6_peace_37 fu σ x1
    else
      mt_ask (fX6_pairsAtWar fu σ) fun r1 =>
      if r1 ≤ 0 then
        bX6_peace_37 fu σ x1
      else
        mt_call (fX6_year fu σ) fun _ s3 =>
        bX6_peace_13 fu n s3 (x1 + 1)
set_option maxHeartbeats 4000000 in
set_option maxRecDepth 20000 in
theorem vX6_peace_13 {K : mt_C} {fu : Nat} {r : Int32} {σf : mt_St} (hQ : mt_R K (some .int) (some (.int r)) σf) : ∀ (n : Nat) (σ : mt_St) (x1 : Int32), mt_V K cX6_peace RX6 2 5 σ 13 [(0, .ref (mt_adr (kG K) 56)), (1, .int x1)] [] (bX6_peace_13 fu n σ x1 = some (r, σf)) := by
  intro n
  induction n with
  | zero => intro σ x1; intro hP; unfold bX6_peace_13 at hP; cases hP
  | succ n ih =>
    intro σ x1
    unfold bX6_peace_13
    refine mv_iload_n 1 dX6_peace_13 rfl rfl ?_
    refine mv_sipush (v := 200) dX6_peace_14 sp_200 ?_
    refine mv_icmp_ge 37 dX6_peace_17 (by decide) ?_ ?_
    · exact vX6_peace_37 hQ σ x1
    · refine mv_aload_n 0 dX6_peace_20 rfl rfl ?_
      refine mv_cVri (As := []) (st := []) cal_X6_pairsAtWar ins_X6_pairsAtWar ml_X6_174 rfl (by decide) rfl rfl (by decide) rfl (Nat.le_of_ble_eq_true rfl) dX6_peace_21 (fun r h => co_X6_pairsAtWar h) (fun r1 => ?_)
      refine mv_if_le 37 dX6_peace_24 (by decide) ?_ ?_
      · exact vX6_peace_37 hQ σ x1
      · refine mv_aload_n 0 dX6_peace_27 rfl rfl ?_
        refine mv_cVwv (As := []) (st := []) cal_X6_year ins_X6_year ml_X6_160 rfl (by decide) rfl rfl (by decide) rfl (Nat.le_of_ble_eq_true rfl) dX6_peace_28 (fun r s h => co_X6_year h) (fun r2 s3 => ?_)
        refine mv_iinc (k0 := 1) (v := x1 + 1) (lv' := [(0, .ref (mt_adr (kG K) 56)), (1, .int (x1 + 1))]) [1, 0] dX6_peace_31 rfl (mt_inc ic_1) (by decide) rfl ?_
        refine mv_goto 13 dX6_peace_34 (by decide) ?_
        exact ih s3 (x1 + 1)
def fX6_peace (fu : Nat) (σ : mt_St) : Option (Int32 × mt_St) :=
  mt_call (fX6_copyRow fu σ 57 59) fun _ s2 =>
  bX6_peace_13 fu fu s2 (0 : Int32)
set_option maxHeartbeats 4000000 in
set_option maxRecDepth 20000 in
theorem vX6_peace {K : mt_C} {fu : Nat} {σ : mt_St} {r : Int32} {σf : mt_St} (hQ : mt_R K (some .int) (some (.int r)) σf) : mt_V K cX6_peace RX6 2 5 σ 0 [(0, .ref (mt_adr (kG K) 56))] [] (fX6_peace fu σ = some (r, σf)) := by
  unfold fX6_peace
  refine mv_aload_n 0 dX6_peace_0 rfl rfl ?_
  refine mg_X6_0 fl_X6_9 dX6_peace_1 ?_
  refine mv_aload_n 0 dX6_peace_4 rfl rfl ?_
  refine mg_X6_2 fl_X6_16 dX6_peace_5 ?_
  refine mv_cSwv (As := [.ref (mt_adr (kG K) 57), .ref (mt_adr (kG K) 59)]) (st := []) cal_X6_copyRow sta_X6_copyRow ml_X6_61 rfl (by decide) rfl (Nat.le_of_ble_eq_true rfl) dX6_peace_8 (fun r s h => co_X6_copyRow rfl rfl rfl rfl h) (fun r1 s2 => ?_)
  refine mv_iconst (v := 0) dX6_peace_11 ic_0 ?_
  refine mv_istore_n (lv' := [(0, .ref (mt_adr (kG K) 56)), (1, .int (0 : Int32))]) [1, 0] dX6_peace_12 rfl (by decide) rfl ?_
  exact vX6_peace_13 hQ fu s2 (0 : Int32)
theorem co_X6_peace {l : Launch} {G : mt_G} {fu : Nat} {σ : mt_St} {r : Int32} {σf : mt_St}  (h : fX6_peace fu σ = some (r, σf)) : mt_Con l G yX6_peace cX6_peace 2 (some .int) 5 [.ref (mt_adr G 56)] σ (some (.int r)) σf :=
  mt_con (by decide) (Nat.le_of_ble_eq_true rfl) (fun K hl hG hQ => by subst hl; subst hG; exact fun _ => vX6_peace  hQ h)
theorem dX6_when_0 : decode cX6_when 0 = .ok (.aload_n 0, 1) := by decide +kernel
theorem dX6_when_1 : decode cX6_when 1 = .ok (.iload_n 1, 1) := by decide +kernel
theorem dX6_when_2 : decode cX6_when 2 = .ok (.invokevirtual 120, 3) := by decide +kernel
theorem dX6_when_5 : decode cX6_when 5 = .ok (.ifCond .eq 31, 3) := by decide +kernel
theorem dX6_when_8 : decode cX6_when 8 = .ok (.iload_n 2, 1) := by decide +kernel
theorem dX6_when_9 : decode cX6_when 9 = .ok (.iconst 0, 1) := by decide +kernel
theorem dX6_when_10 : decode cX6_when 10 = .ok (.sipush 9999, 3) := by decide +kernel
theorem dX6_when_13 : decode cX6_when 13 = .ok (.invokestatic 70, 3) := by decide +kernel
theorem dX6_when_16 : decode cX6_when 16 = .ok (.ifCond .eq 20, 3) := by decide +kernel
theorem dX6_when_19 : decode cX6_when 19 = .ok (.aload_n 0, 1) := by decide +kernel
theorem dX6_when_20 : decode cX6_when 20 = .ok (.aload_n 0, 1) := by decide +kernel
theorem dX6_when_21 : decode cX6_when 21 = .ok (.iload_n 1, 1) := by decide +kernel
theorem dX6_when_22 : decode cX6_when 22 = .ok (.iconst 5, 1) := by decide +kernel
theorem dX6_when_23 : decode cX6_when 23 = .ok (.invokestatic 85, 3) := by decide +kernel
theorem dX6_when_26 : decode cX6_when 26 = .ok (.iload_n 2, 1) := by decide +kernel
theorem dX6_when_27 : decode cX6_when 27 = .ok (.invokevirtual 192, 3) := by decide +kernel
theorem dX6_when_30 : decode cX6_when 30 = .ok (.invokevirtual 195, 3) := by decide +kernel
theorem dX6_when_33 : decode cX6_when 33 = .ok (.goto 9, 3) := by decide +kernel
theorem dX6_when_36 : decode cX6_when 36 = .ok (.aload_n 0, 1) := by decide +kernel
theorem dX6_when_37 : decode cX6_when 37 = .ok (.ldc 60, 2) := by decide +kernel
theorem dX6_when_39 : decode cX6_when 39 = .ok (.invokevirtual 66, 3) := by decide +kernel
theorem dX6_when_42 : decode cX6_when 42 = .ok (.ireturn, 1) := by decide +kernel
def bX6_when_42 (fu : Nat) (σ : mt_St) (y0 : Int32) : Option (Int32 × mt_St) :=
  some (y0, σ)
set_option maxHeartbeats 4000000 in
set_option maxRecDepth 20000 in
theorem vX6_when_42 {K : mt_C} {fu : Nat} {r : Int32} {σf : mt_St} (hQ : mt_R K (some .int) (some (.int r)) σf) : ∀ (σ : mt_St) (y0 : Int32), mt_V K cX6_when RX6 3 6 σ 42 [] [.int y0] (bX6_when_42 fu σ y0 = some (r, σf)) := by
  intro σ y0
  unfold bX6_when_42
  exact mv_iret hQ dX6_when_42
def bX6_when_36 (fu : Nat) (σ : mt_St) : Option (Int32 × mt_St) :=
  mt_call (fX6_finding fu σ (-1000001 : Int32)) fun r1 s2 =>
  bX6_when_42 fu s2 r1
set_option maxHeartbeats 4000000 in
set_option maxRecDepth 20000 in
theorem vX6_when_36 {K : mt_C} {fu : Nat} {r : Int32} {σf : mt_St} (hQ : mt_R K (some .int) (some (.int r)) σf) : ∀ (σ : mt_St), mt_V K cX6_when RX6 3 6 σ 36 [(0, .ref (mt_adr (kG K) 56))] [] (bX6_when_36 fu σ = some (r, σf)) := by
  intro σ
  unfold bX6_when_36
  refine mv_aload_n 0 dX6_when_36 rfl rfl ?_
  refine mv_ldc kc_X6_60 dX6_when_37 ?_
  refine mv_cVwi (As := [.int (-1000001 : Int32)]) (st := []) cal_X6_finding ins_X6_finding ml_X6_66 rfl (by decide) rfl rfl (by decide) rfl (Nat.le_of_ble_eq_true rfl) dX6_when_39 (fun r s h => co_X6_finding h) (fun r1 s2 => ?_)
  refine mv_sub (lv' := []) [] rfl ?_
  exact vX6_when_42 hQ s2 r1
def fX6_when (fu : Nat) (σ : mt_St) (a1 : Int32) (a2 : Int32) : Option (Int32 × mt_St) :=
  mt_ask (fX6_isTreaty fu σ a1) fun r1 =>
  if r1 = 0 then
    bX6_when_36 fu σ
  else
    mt_ask (fX6_within fu a2 (0 : Int32) (9999 : Int32)) fun r2 =>
    if r2 = 0 then
      bX6_when_36 fu σ
    else
      mt_ask (fX6_treatyAt fu a1 (5 : Int32)) fun r3 =>
      mt_call (fX6_yearsTo fu σ r3 a2) fun r4 s5 =>
      mt_call (fX6_orNone fu s5 r4) fun r6 s7 =>
      bX6_when_42 fu s7 r6
set_option maxHeartbeats 4000000 in
set_option maxRecDepth 20000 in
theorem vX6_when {K : mt_C} {fu : Nat} {σ : mt_St} {a1 : Int32} {a2 : Int32} {r : Int32} {σf : mt_St} (hQ : mt_R K (some .int) (some (.int r)) σf) : mt_V K cX6_when RX6 3 6 σ 0 [(0, .ref (mt_adr (kG K) 56)), (1, .int a1), (2, .int a2)] [] (fX6_when fu σ a1 a2 = some (r, σf)) := by
  unfold fX6_when
  refine mv_aload_n 0 dX6_when_0 rfl rfl ?_
  refine mv_iload_n 1 dX6_when_1 rfl rfl ?_
  refine mv_cVri (As := [.int a1]) (st := []) cal_X6_isTreaty ins_X6_isTreaty ml_X6_120 rfl (by decide) rfl rfl (by decide) rfl (Nat.le_of_ble_eq_true rfl) dX6_when_2 (fun r h => co_X6_isTreaty h) (fun r1 => ?_)
  refine mv_if_eq 36 dX6_when_5 (by decide) ?_ ?_
  · refine mv_sub (lv' := [(0, .ref (mt_adr (kG K) 56))]) [0] rfl ?_
    exact vX6_when_36 hQ σ
  · refine mv_iload_n 2 dX6_when_8 rfl rfl ?_
    refine mv_iconst (v := 0) dX6_when_9 ic_0 ?_
    refine mv_sipush (v := 9999) dX6_when_10 sp_9999 ?_
    refine mv_cSri (As := [.int a2, .int (0 : Int32), .int (9999 : Int32)]) (st := []) cal_X6_within sta_X6_within ml_X6_70 rfl (by decide) rfl (Nat.le_of_ble_eq_true rfl) dX6_when_13 (fun r h => co_X6_within h) (fun r2 => ?_)
    refine mv_if_eq 36 dX6_when_16 (by decide) ?_ ?_
    · refine mv_sub (lv' := [(0, .ref (mt_adr (kG K) 56))]) [0] rfl ?_
      exact vX6_when_36 hQ σ
    · refine mv_aload_n 0 dX6_when_19 rfl rfl ?_
      refine mv_aload_n 0 dX6_when_20 rfl rfl ?_
      refine mv_iload_n 1 dX6_when_21 rfl rfl ?_
      refine mv_iconst (v := 5) dX6_when_22 ic_5 ?_
      refine mv_cSri (As := [.int a1, .int (5 : Int32)]) (st := [.ref (mt_adr (kG K) 56), .ref (mt_adr (kG K) 56)]) cal_X6_treatyAt sta_X6_treatyAt ml_X6_85 rfl (by decide) rfl (Nat.le_of_ble_eq_true rfl) dX6_when_23 (fun r h => co_X6_treatyAt h) (fun r3 => ?_)
      refine mv_iload_n 2 dX6_when_26 rfl rfl ?_
      refine mv_cVwi (As := [.int r3, .int a2]) (st := [.ref (mt_adr (kG K) 56)]) cal_X6_yearsTo ins_X6_yearsTo ml_X6_192 rfl (by decide) rfl rfl (by decide) rfl (Nat.le_of_ble_eq_true rfl) dX6_when_27 (fun r s h => co_X6_yearsTo h) (fun r4 s5 => ?_)
      refine mv_cVwi (As := [.int r4]) (st := []) cal_X6_orNone ins_X6_orNone ml_X6_195 rfl (by decide) rfl rfl (by decide) rfl (Nat.le_of_ble_eq_true rfl) dX6_when_30 (fun r s h => co_X6_orNone h) (fun r6 s7 => ?_)
      refine mv_goto 42 dX6_when_33 (by decide) ?_
      refine mv_sub (lv' := []) [] rfl ?_
      exact vX6_when_42 hQ s7 r6
theorem co_X6_when {l : Launch} {G : mt_G} {fu : Nat} {σ : mt_St} {a1 : Int32} {a2 : Int32} {r : Int32} {σf : mt_St}  (h : fX6_when fu σ a1 a2 = some (r, σf)) : mt_Con l G yX6_when cX6_when 3 (some .int) 6 [.ref (mt_adr G 56), .int a1, .int a2] σ (some (.int r)) σf :=
  mt_con (by decide) (Nat.le_of_ble_eq_true rfl) (fun K hl hG hQ => by subst hl; subst hG; exact fun _ => vX6_when  hQ h)
theorem dX6_isThought_0 : decode cX6_isThought 0 = .ok (.iload_n 0, 1) := by decide +kernel
theorem dX6_isThought_1 : decode cX6_isThought 1 = .ok (.iconst 0, 1) := by decide +kernel
theorem dX6_isThought_2 : decode cX6_isThought 2 = .ok (.bipush 60, 2) := by decide +kernel
theorem dX6_isThought_4 : decode cX6_isThought 4 = .ok (.invokestatic 70, 3) := by decide +kernel
theorem dX6_isThought_7 : decode cX6_isThought 7 = .ok (.ireturn, 1) := by decide +kernel
def fX6_isThought (fu : Nat) (a1 : Int32) : Option Int32 :=
  mt_ask (fX6_within fu a1 (0 : Int32) (60 : Int32)) fun r1 =>
  mt_chk (mt_b01 r1) (some r1)
set_option maxHeartbeats 4000000 in
set_option maxRecDepth 20000 in
theorem vX6_isThought {K : mt_C} {fu : Nat} {σ : mt_St} {a1 : Int32} {r : Int32} (hQ : mt_R K (some .boolean) (some (.int r)) σ) : mt_V K cX6_isThought RX6 1 1 σ 0 [(0, .int a1)] [] (fX6_isThought fu a1 = some r) := by
  unfold fX6_isThought
  refine mv_iload_n 0 dX6_isThought_0 rfl rfl ?_
  refine mv_iconst (v := 0) dX6_isThought_1 ic_0 ?_
  refine mv_bipush (v := 60) dX6_isThought_2 bp_60 ?_
  refine mv_cSri (As := [.int a1, .int (0 : Int32), .int (60 : Int32)]) (st := []) cal_X6_within sta_X6_within ml_X6_70 rfl (by decide) rfl (Nat.le_of_ble_eq_true rfl) dX6_isThought_4 (fun r h => co_X6_within h) (fun r1 => ?_)
  exact mv_zretr hQ dX6_isThought_7
theorem co_X6_isThought {l : Launch} {G : mt_G} {fu : Nat} {σ : mt_St} {a1 : Int32} {r : Int32}  (h : fX6_isThought fu a1 = some r) : mt_Con l G yX6_isThought cX6_isThought 1 (some .boolean) 1 [.int a1] σ (some (.int r)) σ :=
  mt_con (by decide) (Nat.le_of_ble_eq_true rfl) (fun K hl hG hQ => by subst hl; subst hG; exact fun _ => vX6_isThought  hQ h)
theorem dX6_yardFor_0 : decode cX6_yardFor 0 = .ok (.iload_n 1, 1) := by decide +kernel
theorem dX6_yardFor_1 : decode cX6_yardFor 1 = .ok (.invokestatic 198, 3) := by decide +kernel
theorem dX6_yardFor_4 : decode cX6_yardFor 4 = .ok (.ifCond .ne 10, 3) := by decide +kernel
theorem dX6_yardFor_7 : decode cX6_yardFor 7 = .ok (.aload_n 0, 1) := by decide +kernel
theorem dX6_yardFor_8 : decode cX6_yardFor 8 = .ok (.ldc 60, 2) := by decide +kernel
theorem dX6_yardFor_10 : decode cX6_yardFor 10 = .ok (.invokevirtual 66, 3) := by decide +kernel
theorem dX6_yardFor_13 : decode cX6_yardFor 13 = .ok (.ireturn, 1) := by decide +kernel
theorem dX6_yardFor_14 : decode cX6_yardFor 14 = .ok (.aload_n 0, 1) := by decide +kernel
theorem dX6_yardFor_15 : decode cX6_yardFor 15 = .ok (.getfield 9, 3) := by decide +kernel
theorem dX6_yardFor_18 : decode cX6_yardFor 18 = .ok (.iconst 4, 1) := by decide +kernel
theorem dX6_yardFor_19 : decode cX6_yardFor 19 = .ok (.iaload, 1) := by decide +kernel
theorem dX6_yardFor_20 : decode cX6_yardFor 20 = .ok (.istore_n 2, 1) := by decide +kernel
theorem dX6_yardFor_21 : decode cX6_yardFor 21 = .ok (.iconst 0, 1) := by decide +kernel
theorem dX6_yardFor_22 : decode cX6_yardFor 22 = .ok (.istore_n 3, 1) := by decide +kernel
theorem dX6_yardFor_23 : decode cX6_yardFor 23 = .ok (.iconst (-1), 1) := by decide +kernel
theorem dX6_yardFor_24 : decode cX6_yardFor 24 = .ok (.istore 4, 2) := by decide +kernel
theorem dX6_yardFor_26 : decode cX6_yardFor 26 = .ok (.iconst 0, 1) := by decide +kernel
theorem dX6_yardFor_27 : decode cX6_yardFor 27 = .ok (.istore 5, 2) := by decide +kernel
theorem dX6_yardFor_29 : decode cX6_yardFor 29 = .ok (.iload 5, 2) := by decide +kernel
theorem dX6_yardFor_31 : decode cX6_yardFor 31 = .ok (.bipush 12, 2) := by decide +kernel
theorem dX6_yardFor_33 : decode cX6_yardFor 33 = .ok (.if_icmp .ge 41, 3) := by decide +kernel
theorem dX6_yardFor_36 : decode cX6_yardFor 36 = .ok (.aload_n 0, 1) := by decide +kernel
theorem dX6_yardFor_37 : decode cX6_yardFor 37 = .ok (.getfield 9, 3) := by decide +kernel
theorem dX6_yardFor_40 : decode cX6_yardFor 40 = .ok (.iconst 4, 1) := by decide +kernel
theorem dX6_yardFor_41 : decode cX6_yardFor 41 = .ok (.iconst 1, 1) := by decide +kernel
theorem dX6_yardFor_42 : decode cX6_yardFor 42 = .ok (.iload 5, 2) := by decide +kernel
theorem dX6_yardFor_44 : decode cX6_yardFor 44 = .ok (.ishl, 1) := by decide +kernel
theorem dX6_yardFor_45 : decode cX6_yardFor 45 = .ok (.iastore, 1) := by decide +kernel
theorem dX6_yardFor_46 : decode cX6_yardFor 46 = .ok (.aload_n 0, 1) := by decide +kernel
theorem dX6_yardFor_47 : decode cX6_yardFor 47 = .ok (.iconst 3, 1) := by decide +kernel
theorem dX6_yardFor_48 : decode cX6_yardFor 48 = .ok (.iload_n 1, 1) := by decide +kernel
theorem dX6_yardFor_49 : decode cX6_yardFor 49 = .ok (.invokevirtual 189, 3) := by decide +kernel
theorem dX6_yardFor_52 : decode cX6_yardFor 52 = .ok (.istore 6, 2) := by decide +kernel
theorem dX6_yardFor_54 : decode cX6_yardFor 54 = .ok (.iload 6, 2) := by decide +kernel
theorem dX6_yardFor_56 : decode cX6_yardFor 56 = .ok (.iload 4, 2) := by decide +kernel
theorem dX6_yardFor_58 : decode cX6_yardFor 58 = .ok (.if_icmp .le 10, 3) := by decide +kernel
theorem dX6_yardFor_61 : decode cX6_yardFor 61 = .ok (.iload 5, 2) := by decide +kernel
theorem dX6_yardFor_63 : decode cX6_yardFor 63 = .ok (.istore_n 3, 1) := by decide +kernel
theorem dX6_yardFor_64 : decode cX6_yardFor 64 = .ok (.iload 6, 2) := by decide +kernel
theorem dX6_yardFor_66 : decode cX6_yardFor 66 = .ok (.istore 4, 2) := by decide +kernel
theorem dX6_yardFor_68 : decode cX6_yardFor 68 = .ok (.iinc 5 1, 3) := by decide +kernel
theorem dX6_yardFor_71 : decode cX6_yardFor 71 = .ok (.goto (-42), 3) := by decide +kernel
theorem dX6_yardFor_74 : decode cX6_yardFor 74 = .ok (.aload_n 0, 1) := by decide +kernel
theorem dX6_yardFor_75 : decode cX6_yardFor 75 = .ok (.getfield 9, 3) := by decide +kernel
theorem dX6_yardFor_78 : decode cX6_yardFor 78 = .ok (.iconst 4, 1) := by decide +kernel
theorem dX6_yardFor_79 : decode cX6_yardFor 79 = .ok (.iload_n 2, 1) := by decide +kernel
theorem dX6_yardFor_80 : decode cX6_yardFor 80 = .ok (.iastore, 1) := by decide +kernel
theorem dX6_yardFor_81 : decode cX6_yardFor 81 = .ok (.iload_n 3, 1) := by decide +kernel
theorem dX6_yardFor_82 : decode cX6_yardFor 82 = .ok (.ireturn, 1) := by decide +kernel
def bX6_yardFor_68 (fu : Nat) (k29 : mt_St → Int32 → Int32 → Int32 → Int32 → Int32 → Option (Int32 × mt_St)) (σ : mt_St) (x1 : Int32) (x2 : Int32) (x3 : Int32) (x4 : Int32) (x5 : Int32) : Option (Int32 × mt_St) :=
  k29 σ x1 x2 x3 x4 (x5 + 1)
set_option maxHeartbeats 4000000 in
set_option maxRecDepth 20000 in
theorem vX6_yardFor_68 {K : mt_C} {fu : Nat} {r : Int32} {σf : mt_St} (hQ : mt_R K (some .int) (some (.int r)) σf) {k29 : mt_St → Int32 → Int32 → Int32 → Int32 → Int32 → Option (Int32 × mt_St)} (hk29 : ∀ (s0 : mt_St) (x1 : Int32) (x2 : Int32) (x3 : Int32) (x4 : Int32) (x5 : Int32), mt_V K cX6_yardFor RX6 7 7 s0 29 [(0, .ref (mt_adr (kG K) 56)), (1, .int x1), (2, .int x2), (3, .int x3), (4, .int x4), (5, .int x5)] [] (k29 s0 x1 x2 x3 x4 x5 = some (r, σf))) : ∀ (σ : mt_St) (x1 : Int32) (x2 : Int32) (x3 : Int32) (x4 : Int32) (x5 : Int32), mt_V K cX6_yardFor RX6 7 7 σ 68 [(0, .ref (mt_adr (kG K) 56)), (1, .int x1), (2, .int x2), (3, .int x3), (4, .int x4), (5, .int x5)] [] (bX6_yardFor_68 fu k29 σ x1 x2 x3 x4 x5 = some (r, σf)) := by
  intro σ x1 x2 x3 x4 x5
  unfold bX6_yardFor_68
  refine mv_iinc (k0 := 5) (v := x5 + 1) (lv' := [(0, .ref (mt_adr (kG K) 56)), (1, .int x1), (2, .int x2), (3, .int x3), (4, .int x4), (5, .int (x5 + 1))]) [1, 2, 3, 4, 5, 0] dX6_yardFor_68 rfl (mt_inc ic_1) (by decide) rfl ?_
  refine mv_goto 29 dX6_yardFor_71 (by decide) ?_
  exact hk29 σ x1 x2 x3 x4 (x5 + 1)
def bX6_yardFor_29 (fu : Nat) : Nat → mt_St → Int32 → Int32 → Int32 → Int32 → Int32 → Option (Int32 × mt_St)
  | 0, _, _, _, _, _, _ => none
  | n + 1, σ, x1, x2, x3, x4, x5 =>
    if (12 : Int32) ≤ x5 then
      mt_bnd (mt_up σ 57 4 x2) fun s1 =>
      some (x3, s1)
    else
      mt_bnd (mt_up σ 57 4 ((1 : Int32) <<< (x5 &&& 31))) fun s2 =>
      mt_call (fX6_behind fu s2 (3 : Int32) x1) fun r3 s4 =>
      if r3 ≤ x4 then
        bX6_yardFor_68 fu (fun s0 x1 x2 x3 x4 x5 => bX6_yardFor_29 fu n s0 x1 x2 x3 x4 x5) s4 x1 x2 x3 x4 x5
      else
        bX6_yardFor_68 fu (fun s0 x1 x2 x3 x4 x5 => bX6_yardFor_29 fu n s0 x1 x2 x3 x4 x5) s4 x1 x2 x5 r3 x5
set_option maxHeartbeats 4000000 in
set_option maxRecDepth 20000 in
theorem vX6_yardFor_29 {K : mt_C} {fu : Nat} {r : Int32} {σf : mt_St} (hQ : mt_R K (some .int) (some (.int r)) σf) : ∀ (n : Nat) (σ : mt_St) (x1 : Int32) (x2 : Int32) (x3 : Int32) (x4 : Int32) (x5 : Int32), mt_V K cX6_yardFor RX6 7 7 σ 29 [(0, .ref (mt_adr (kG K) 56)), (1, .int x1), (2, .int x2), (3, .int x3), (4, .int x4), (5, .int x5)] [] (bX6_yardFor_29 fu n σ x1 x2 x3 x4 x5 = some (r, σf)) := by
  intro n
  induction n with
  | zero => intro σ x1 x2 x3 x4 x5; intro hP; unfold bX6_yardFor_29 at hP; cases hP
  | succ n ih =>
    intro σ x1 x2 x3 x4 x5
    unfold bX6_yardFor_29
    refine mv_iload 5 dX6_yardFor_29 rfl ?_
    refine mv_bipush (v := 12) dX6_yardFor_31 bp_12 ?_
    refine mv_icmp_ge 74 dX6_yardFor_33 (by decide) ?_ ?_
    · refine mv_aload_n 0 dX6_yardFor_74 rfl rfl ?_
      refine mg_X6_0 fl_X6_9 dX6_yardFor_75 ?_
      refine mv_iconst (v := 4) dX6_yardFor_78 ic_4 ?_
      refine mv_iload_n 2 dX6_yardFor_79 rfl rfl ?_
      refine mv_iastk 86 4 rfl rfl (by decide) (by decide) dX6_yardFor_80 (fun s1 => ?_)
      refine mv_iload_n 3 dX6_yardFor_81 rfl rfl ?_
      exact mv_iret hQ dX6_yardFor_82
    · refine mv_aload_n 0 dX6_yardFor_36 rfl rfl ?_
      refine mg_X6_0 fl_X6_9 dX6_yardFor_37 ?_
      refine mv_iconst (v := 4) dX6_yardFor_40 ic_4 ?_
      refine mv_iconst (v := 1) dX6_yardFor_41 ic_1 ?_
      refine mv_iload 5 dX6_yardFor_42 rfl ?_
      refine mv_ishl dX6_yardFor_44 ?_
      refine mv_iastk 86 4 rfl rfl (by decide) (by decide) dX6_yardFor_45 (fun s2 => ?_)
      refine mv_aload_n 0 dX6_yardFor_46 rfl rfl ?_
      refine mv_iconst (v := 3) dX6_yardFor_47 ic_3 ?_
      refine mv_iload_n 1 dX6_yardFor_48 rfl rfl ?_
      refine mv_cVwi (As := [.int (3 : Int32), .int x1]) (st := []) cal_X6_behind ins_X6_behind ml_X6_189 rfl (by decide) rfl rfl (by decide) rfl (Nat.le_of_ble_eq_true rfl) dX6_yardFor_49 (fun r s h => co_X6_behind h) (fun r3 s4 => ?_)
      refine mv_istore (lv' := [(0, .ref (mt_adr (kG K) 56)), (1, .int x1), (2, .int x2), (3, .int x3), (4, .int x4), (5, .int x5), (6, .int r3)]) [1, 2, 3, 4, 5, 6, 0] dX6_yardFor_52 (by decide) rfl ?_
      refine mv_iload 6 dX6_yardFor_54 rfl ?_
      refine mv_iload 4 dX6_yardFor_56 rfl ?_
      refine mv_icmp_le 68 dX6_yardFor_58 (by decide) ?_ ?_
      · refine mv_sub (lv' := [(0, .ref (mt_adr (kG K) 56)), (1, .int x1), (2, .int x2), (3, .int x3), (4, .int x4), (5, .int x5)]) [0, 1, 2, 3, 4, 5] rfl ?_
        exact vX6_yardFor_68 hQ (fun s0 x1 x2 x3 x4 x5 => ih s0 x1 x2 x3 x4 x5) s4 x1 x2 x3 x4 x5
      · refine mv_iload 5 dX6_yardFor_61 rfl ?_
        refine mv_istore_n (lv' := [(0, .ref (mt_adr (kG K) 56)), (1, .int x1), (2, .int x2), (3, .int x5), (5, .int x5), (6, .int r3)]) [1, 2, 3, 0, 5, 6] dX6_yardFor_63 rfl (by decide) rfl ?_
        refine mv_iload 5 dX6_yardFor_64 rfl ?_
        refine mv_istore (lv' := [(0, .ref (mt_adr (kG K) 56)), (1, .int x1), (2, .int x2), (3, .int x5), (4, .int r3), (5, .int x5)]) [1, 2, 3, 4, 0, 5] dX6_yardFor_66 (by decide) rfl ?_
        exact vX6_yardFor_68 hQ (fun s0 x1 x2 x3 x4 x5 => ih s0 x1 x2 x3 x4 x5) s4 x1 x2 x5 r3 x5
def fX6_yardFor (fu : Nat) (σ : mt_St) (a1 : Int32) : Option (Int32 × mt_St) :=
  mt_ask (fX6_isThought fu a1) fun r1 =>
  if r1 = 0 then
    mt_call (fX6_finding fu σ (-1000001 : Int32)) fun r2 s3 =>
    some (r2, s3)
  else
    bX6_yardFor_29 fu fu σ a1 (σ 57 4) (0 : Int32) (-1 : Int32) (0 : Int32)
set_option maxHeartbeats 4000000 in
set_option maxRecDepth 20000 in
theorem vX6_yardFor {K : mt_C} {fu : Nat} {σ : mt_St} {a1 : Int32} {r : Int32} {σf : mt_St} (hQ : mt_R K (some .int) (some (.int r)) σf) : mt_V K cX6_yardFor RX6 7 7 σ 0 [(0, .ref (mt_adr (kG K) 56)), (1, .int a1)] [] (fX6_yardFor fu σ a1 = some (r, σf)) := by
  unfold fX6_yardFor
  refine mv_iload_n 1 dX6_yardFor_0 rfl rfl ?_
  refine mv_cSri (As := [.int a1]) (st := []) cal_X6_isThought sta_X6_isThought ml_X6_198 rfl (by decide) rfl (Nat.le_of_ble_eq_true rfl) dX6_yardFor_1 (fun r h => co_X6_isThought h) (fun r1 => ?_)
  refine mv_if_ne 14 dX6_yardFor_4 (by decide) ?_ ?_
  · refine mv_aload_n 0 dX6_yardFor_14 rfl rfl ?_
    refine mg_X6_0 fl_X6_9 dX6_yardFor_15 ?_
    refine mv_iconst (v := 4) dX6_yardFor_18 ic_4 ?_
    refine mv_ialdk 86 4 rfl rfl (by decide) (by decide) dX6_yardFor_19 ?_
    refine mv_istore_n (lv' := [(0, .ref (mt_adr (kG K) 56)), (1, .int a1), (2, .int (σ 57 4))]) [1, 2, 0] dX6_yardFor_20 rfl (by decide) rfl ?_
    refine mv_iconst (v := 0) dX6_yardFor_21 ic_0 ?_
    refine mv_istore_n (lv' := [(0, .ref (mt_adr (kG K) 56)), (1, .int a1), (2, .int (σ 57 4)), (3, .int (0 : Int32))]) [1, 2, 3, 0] dX6_yardFor_22 rfl (by decide) rfl ?_
    refine mv_iconst (v := -1) dX6_yardFor_23 ic_m1 ?_
    refine mv_istore (lv' := [(0, .ref (mt_adr (kG K) 56)), (1, .int a1), (2, .int (σ 57 4)), (3, .int (0 : Int32)), (4, .int (-1 : Int32))]) [1, 2, 3, 4, 0] dX6_yardFor_24 (by decide) rfl ?_
    refine mv_iconst (v := 0) dX6_yardFor_26 ic_0 ?_
    refine mv_istore (lv' := [(0, .ref (mt_adr (kG K) 56)), (1, .int a1), (2, .int (σ 57 4)), (3, .int (0 : Int32)), (4, .int (-1 : Int32)), (5, .int (0 : Int32))]) [1, 2, 3, 4, 5, 0] dX6_yardFor_27 (by decide) rfl ?_
    exact vX6_yardFor_29 hQ fu σ a1 (σ 57 4) (0 : Int32) (-1 : Int32) (0 : Int32)
  · refine mv_aload_n 0 dX6_yardFor_7 rfl rfl ?_
    refine mv_ldc kc_X6_60 dX6_yardFor_8 ?_
    refine mv_cVwi (As := [.int (-1000001 : Int32)]) (st := []) cal_X6_finding ins_X6_finding ml_X6_66 rfl (by decide) rfl rfl (by decide) rfl (Nat.le_of_ble_eq_true rfl) dX6_yardFor_10 (fun r s h => co_X6_finding h) (fun r2 s3 => ?_)
    exact mv_iret hQ dX6_yardFor_13
theorem co_X6_yardFor {l : Launch} {G : mt_G} {fu : Nat} {σ : mt_St} {a1 : Int32} {r : Int32} {σf : mt_St}  (h : fX6_yardFor fu σ a1 = some (r, σf)) : mt_Con l G yX6_yardFor cX6_yardFor 7 (some .int) 7 [.ref (mt_adr G 56), .int a1] σ (some (.int r)) σf :=
  mt_con (by decide) (Nat.le_of_ble_eq_true rfl) (fun K hl hG hQ => by subst hl; subst hG; exact fun _ => vX6_yardFor  hQ h)
theorem dX6_kindFor_0 : decode cX6_kindFor 0 = .ok (.aload_n 0, 1) := by decide +kernel
theorem dX6_kindFor_1 : decode cX6_kindFor 1 = .ok (.iload_n 1, 1) := by decide +kernel
theorem dX6_kindFor_2 : decode cX6_kindFor 2 = .ok (.invokevirtual 120, 3) := by decide +kernel
theorem dX6_kindFor_5 : decode cX6_kindFor 5 = .ok (.ifCond .eq 10, 3) := by decide +kernel
theorem dX6_kindFor_8 : decode cX6_kindFor 8 = .ok (.iload_n 2, 1) := by decide +kernel
theorem dX6_kindFor_9 : decode cX6_kindFor 9 = .ok (.invokestatic 198, 3) := by decide +kernel
theorem dX6_kindFor_12 : decode cX6_kindFor 12 = .ok (.ifCond .ne 10, 3) := by decide +kernel
theorem dX6_kindFor_15 : decode cX6_kindFor 15 = .ok (.aload_n 0, 1) := by decide +kernel
theorem dX6_kindFor_16 : decode cX6_kindFor 16 = .ok (.ldc 60, 2) := by decide +kernel
theorem dX6_kindFor_18 : decode cX6_kindFor 18 = .ok (.invokevirtual 66, 3) := by decide +kernel
theorem dX6_kindFor_21 : decode cX6_kindFor 21 = .ok (.ireturn, 1) := by decide +kernel
theorem dX6_kindFor_22 : decode cX6_kindFor 22 = .ok (.iload_n 1, 1) := by decide +kernel
theorem dX6_kindFor_23 : decode cX6_kindFor 23 = .ok (.iconst 0, 1) := by decide +kernel
theorem dX6_kindFor_24 : decode cX6_kindFor 24 = .ok (.invokestatic 85, 3) := by decide +kernel
theorem dX6_kindFor_27 : decode cX6_kindFor 27 = .ok (.istore_n 3, 1) := by decide +kernel
theorem dX6_kindFor_28 : decode cX6_kindFor 28 = .ok (.aload_n 0, 1) := by decide +kernel
theorem dX6_kindFor_29 : decode cX6_kindFor 29 = .ok (.getfield 9, 3) := by decide +kernel
theorem dX6_kindFor_32 : decode cX6_kindFor 32 = .ok (.iload_n 3, 1) := by decide +kernel
theorem dX6_kindFor_33 : decode cX6_kindFor 33 = .ok (.iaload, 1) := by decide +kernel
theorem dX6_kindFor_34 : decode cX6_kindFor 34 = .ok (.istore 4, 2) := by decide +kernel
theorem dX6_kindFor_36 : decode cX6_kindFor 36 = .ok (.iconst 0, 1) := by decide +kernel
theorem dX6_kindFor_37 : decode cX6_kindFor 37 = .ok (.istore 5, 2) := by decide +kernel
theorem dX6_kindFor_39 : decode cX6_kindFor 39 = .ok (.sipush 10000, 3) := by decide +kernel
theorem dX6_kindFor_42 : decode cX6_kindFor 42 = .ok (.istore 6, 2) := by decide +kernel
theorem dX6_kindFor_44 : decode cX6_kindFor 44 = .ok (.iconst 0, 1) := by decide +kernel
theorem dX6_kindFor_45 : decode cX6_kindFor 45 = .ok (.istore 7, 2) := by decide +kernel
theorem dX6_kindFor_47 : decode cX6_kindFor 47 = .ok (.iload 7, 2) := by decide +kernel
theorem dX6_kindFor_49 : decode cX6_kindFor 49 = .ok (.bipush 6, 2) := by decide +kernel
theorem dX6_kindFor_51 : decode cX6_kindFor 51 = .ok (.if_icmp .gt 45, 3) := by decide +kernel
theorem dX6_kindFor_54 : decode cX6_kindFor 54 = .ok (.aload_n 0, 1) := by decide +kernel
theorem dX6_kindFor_55 : decode cX6_kindFor 55 = .ok (.getfield 9, 3) := by decide +kernel
theorem dX6_kindFor_58 : decode cX6_kindFor 58 = .ok (.iload_n 3, 1) := by decide +kernel
theorem dX6_kindFor_59 : decode cX6_kindFor 59 = .ok (.iload 7, 2) := by decide +kernel
theorem dX6_kindFor_61 : decode cX6_kindFor 61 = .ok (.iastore, 1) := by decide +kernel
theorem dX6_kindFor_62 : decode cX6_kindFor 62 = .ok (.aload_n 0, 1) := by decide +kernel
theorem dX6_kindFor_63 : decode cX6_kindFor 63 = .ok (.iload_n 1, 1) := by decide +kernel
theorem dX6_kindFor_64 : decode cX6_kindFor 64 = .ok (.bipush 7, 2) := by decide +kernel
theorem dX6_kindFor_66 : decode cX6_kindFor 66 = .ok (.invokestatic 85, 3) := by decide +kernel
theorem dX6_kindFor_69 : decode cX6_kindFor 69 = .ok (.iload_n 2, 1) := by decide +kernel
theorem dX6_kindFor_70 : decode cX6_kindFor 70 = .ok (.invokevirtual 189, 3) := by decide +kernel
theorem dX6_kindFor_73 : decode cX6_kindFor 73 = .ok (.istore 8, 2) := by decide +kernel
theorem dX6_kindFor_75 : decode cX6_kindFor 75 = .ok (.iload 8, 2) := by decide +kernel
theorem dX6_kindFor_77 : decode cX6_kindFor 77 = .ok (.iload 6, 2) := by decide +kernel
theorem dX6_kindFor_79 : decode cX6_kindFor 79 = .ok (.if_icmp .ge 11, 3) := by decide +kernel
theorem dX6_kindFor_82 : decode cX6_kindFor 82 = .ok (.iload 7, 2) := by decide +kernel
theorem dX6_kindFor_84 : decode cX6_kindFor 84 = .ok (.istore 5, 2) := by decide +kernel
theorem dX6_kindFor_86 : decode cX6_kindFor 86 = .ok (.iload 8, 2) := by decide +kernel
theorem dX6_kindFor_88 : decode cX6_kindFor 88 = .ok (.istore 6, 2) := by decide +kernel
theorem dX6_kindFor_90 : decode cX6_kindFor 90 = .ok (.iinc 7 1, 3) := by decide +kernel
theorem dX6_kindFor_93 : decode cX6_kindFor 93 = .ok (.goto (-46), 3) := by decide +kernel
theorem dX6_kindFor_96 : decode cX6_kindFor 96 = .ok (.aload_n 0, 1) := by decide +kernel
theorem dX6_kindFor_97 : decode cX6_kindFor 97 = .ok (.getfield 9, 3) := by decide +kernel
theorem dX6_kindFor_100 : decode cX6_kindFor 100 = .ok (.iload_n 3, 1) := by decide +kernel
theorem dX6_kindFor_101 : decode cX6_kindFor 101 = .ok (.iload 4, 2) := by decide +kernel
theorem dX6_kindFor_103 : decode cX6_kindFor 103 = .ok (.iastore, 1) := by decide +kernel
theorem dX6_kindFor_104 : decode cX6_kindFor 104 = .ok (.iload 5, 2) := by decide +kernel
theorem dX6_kindFor_106 : decode cX6_kindFor 106 = .ok (.ireturn, 1) := by decide +kernel
def bX6_kindFor_90 (fu : Nat) (k47 : mt_St → Int32 → Int32 → Int32 → Int32 → Int32 → Int32 → Int32 → Option (Int32 × mt_St)) (σ : mt_St) (x1 : Int32) (x2 : Int32) (x3 : Int32) (x4 : Int32) (x5 : Int32) (x6 : Int32) (x7 : Int32) : Option (Int32 × mt_St) :=
  k47 σ x1 x2 x3 x4 x5 x6 (x7 + 1)
set_option maxHeartbeats 4000000 in
set_option maxRecDepth 20000 in
theorem vX6_kindFor_90 {K : mt_C} {fu : Nat} {r : Int32} {σf : mt_St} (hQ : mt_R K (some .int) (some (.int r)) σf) {k47 : mt_St → Int32 → Int32 → Int32 → Int32 → Int32 → Int32 → Int32 → Option (Int32 × mt_St)} (hk47 : ∀ (s0 : mt_St) (x1 : Int32) (x2 : Int32) (x3 : Int32) (x4 : Int32) (x5 : Int32) (x6 : Int32) (x7 : Int32), mt_V K cX6_kindFor RX6 9 7 s0 47 [(0, .ref (mt_adr (kG K) 56)), (1, .int x1), (2, .int x2), (3, .int x3), (4, .int x4), (5, .int x5), (6, .int x6), (7, .int x7)] [] (k47 s0 x1 x2 x3 x4 x5 x6 x7 = some (r, σf))) : ∀ (σ : mt_St) (x1 : Int32) (x2 : Int32) (x3 : Int32) (x4 : Int32) (x5 : Int32) (x6 : Int32) (x7 : Int32), mt_V K cX6_kindFor RX6 9 7 σ 90 [(0, .ref (mt_adr (kG K) 56)), (1, .int x1), (2, .int x2), (3, .int x3), (4, .int x4), (5, .int x5), (6, .int x6), (7, .int x7)] [] (bX6_kindFor_90 fu k47 σ x1 x2 x3 x4 x5 x6 x7 = some (r, σf)) := by
  intro σ x1 x2 x3 x4 x5 x6 x7
  unfold bX6_kindFor_90
  refine mv_iinc (k0 := 7) (v := x7 + 1) (lv' := [(0, .ref (mt_adr (kG K) 56)), (1, .int x1), (2, .int x2), (3, .int x3), (4, .int x4), (5, .int x5), (6, .int x6), (7, .int (x7 + 1))]) [1, 2, 3, 4, 5, 6, 7, 0] dX6_kindFor_90 rfl (mt_inc ic_1) (by decide) rfl ?_
  refine mv_goto 47 dX6_kindFor_93 (by decide) ?_
  exact hk47 σ x1 x2 x3 x4 x5 x6 (x7 + 1)
def bX6_kindFor_47 (fu : Nat) : Nat → mt_St → Int32 → Int32 → Int32 → Int32 → Int32 → Int32 → Int32 → Option (Int32 × mt_St)
  | 0, _, _, _, _, _, _, _, _ => none
  | n + 1, σ, x1, x2, x3, x4, x5, x6, x7 =>
    if (6 : Int32) < x7 then
      mt_chk (mt_in x3 86) <|
      mt_bnd (mt_up σ 57 (Int32.toNatClampNeg x3) x4) fun s1 =>
      some (x5, s1)
    else
      mt_chk (mt_in x3 86) <|
      mt_bnd (mt_up σ 57 (Int32.toNatClampNeg x3) x7) fun s2 =>
      mt_ask (fX6_treatyAt fu x1 (7 : Int32)) fun r3 =>
      mt_call (fX6_behind fu s2 r3 x2) fun r4 s5 =>
      if x6 ≤ r4 then
        bX6_kindFor_90 fu (fun s0 x1 x2 x3 x4 x5 x6 x7 => bX6_kindFor_47 fu n s0 x1 x2 x3 x4 x5 x6 x7) s5 x1 x2 x3 x4 x5 x6 x7
      else
        bX6_kindFor_90 fu (fun s0 x1 x2 x3 x4 x5 x6 x7 => bX6_kindFor_47 fu n s0 x1 x2 x3 x4 x5 x6 x7) s5 x1 x2 x3 x4 x7 r4 x7
set_option maxHeartbeats 4000000 in
set_option maxRecDepth 20000 in
theorem vX6_kindFor_47 {K : mt_C} {fu : Nat} {r : Int32} {σf : mt_St} (hQ : mt_R K (some .int) (some (.int r)) σf) : ∀ (n : Nat) (σ : mt_St) (x1 : Int32) (x2 : Int32) (x3 : Int32) (x4 : Int32) (x5 : Int32) (x6 : Int32) (x7 : Int32), mt_V K cX6_kindFor RX6 9 7 σ 47 [(0, .ref (mt_adr (kG K) 56)), (1, .int x1), (2, .int x2), (3, .int x3), (4, .int x4), (5, .int x5), (6, .int x6), (7, .int x7)] [] (bX6_kindFor_47 fu n σ x1 x2 x3 x4 x5 x6 x7 = some (r, σf)) := by
  intro n
  induction n with
  | zero => intro σ x1 x2 x3 x4 x5 x6 x7; intro hP; unfold bX6_kindFor_47 at hP; cases hP
  | succ n ih =>
    intro σ x1 x2 x3 x4 x5 x6 x7
    unfold bX6_kindFor_47
    refine mv_iload 7 dX6_kindFor_47 rfl ?_
    refine mv_bipush (v := 6) dX6_kindFor_49 bp_6 ?_
    refine mv_icmp_gt 96 dX6_kindFor_51 (by decide) ?_ ?_
    · refine mv_aload_n 0 dX6_kindFor_96 rfl rfl ?_
      refine mg_X6_0 fl_X6_9 dX6_kindFor_97 ?_
      refine mv_iload_n 3 dX6_kindFor_100 rfl rfl ?_
      refine mv_iload 4 dX6_kindFor_101 rfl ?_
      refine mv_iast 86 rfl rfl dX6_kindFor_103 (fun s1 => ?_)
      refine mv_iload 5 dX6_kindFor_104 rfl ?_
      exact mv_iret hQ dX6_kindFor_106
    · refine mv_aload_n 0 dX6_kindFor_54 rfl rfl ?_
      refine mg_X6_0 fl_X6_9 dX6_kindFor_55 ?_
      refine mv_iload_n 3 dX6_kindFor_58 rfl rfl ?_
      refine mv_iload 7 dX6_kindFor_59 rfl ?_
      refine mv_iast 86 rfl rfl dX6_kindFor_61 (fun s2 => ?_)
      refine mv_aload_n 0 dX6_kindFor_62 rfl rfl ?_
      refine mv_iload_n 1 dX6_kindFor_63 rfl rfl ?_
      refine mv_bipush (v := 7) dX6_kindFor_64 bp_7 ?_
      refine mv_cSri (As := [.int x1, .int (7 : Int32)]) (st := [.ref (mt_adr (kG K) 56)]) cal_X6_treatyAt sta_X6_treatyAt ml_X6_85 rfl (by decide) rfl (Nat.le_of_ble_eq_true rfl) dX6_kindFor_66 (fun r h => co_X6_treatyAt h) (fun r3 => ?_)
      refine mv_iload_n 2 dX6_kindFor_69 rfl rfl ?_
      refine mv_cVwi (As := [.int r3, .int x2]) (st := []) cal_X6_behind ins_X6_behind ml_X6_189 rfl (by decide) rfl rfl (by decide) rfl (Nat.le_of_ble_eq_true rfl) dX6_kindFor_70 (fun r s h => co_X6_behind h) (fun r4 s5 => ?_)
      refine mv_istore (lv' := [(0, .ref (mt_adr (kG K) 56)), (1, .int x1), (2, .int x2), (3, .int x3), (4, .int x4), (5, .int x5), (6, .int x6), (7, .int x7), (8, .int r4)]) [1, 2, 3, 4, 5, 6, 7, 8, 0] dX6_kindFor_73 (by decide) rfl ?_
      refine mv_iload 8 dX6_kindFor_75 rfl ?_
      refine mv_iload 6 dX6_kindFor_77 rfl ?_
      refine mv_icmp_ge 90 dX6_kindFor_79 (by decide) ?_ ?_
      · refine mv_sub (lv' := [(0, .ref (mt_adr (kG K) 56)), (1, .int x1), (2, .int x2), (3, .int x3), (4, .int x4), (5, .int x5), (6, .int x6), (7, .int x7)]) [0, 1, 2, 3, 4, 5, 6, 7] rfl ?_
        exact vX6_kindFor_90 hQ (fun s0 x1 x2 x3 x4 x5 x6 x7 => ih s0 x1 x2 x3 x4 x5 x6 x7) s5 x1 x2 x3 x4 x5 x6 x7
      · refine mv_iload 7 dX6_kindFor_82 rfl ?_
        refine mv_istore (lv' := [(0, .ref (mt_adr (kG K) 56)), (1, .int x1), (2, .int x2), (3, .int x3), (4, .int x4), (5, .int x7), (7, .int x7), (8, .int r4)]) [1, 2, 3, 4, 5, 0, 7, 8] dX6_kindFor_84 (by decide) rfl ?_
        refine mv_iload 7 dX6_kindFor_86 rfl ?_
        refine mv_istore (lv' := [(0, .ref (mt_adr (kG K) 56)), (1, .int x1), (2, .int x2), (3, .int x3), (4, .int x4), (5, .int x7), (6, .int r4), (7, .int x7)]) [1, 2, 3, 4, 5, 6, 0, 7] dX6_kindFor_88 (by decide) rfl ?_
        exact vX6_kindFor_90 hQ (fun s0 x1 x2 x3 x4 x5 x6 x7 => ih s0 x1 x2 x3 x4 x5 x6 x7) s5 x1 x2 x3 x4 x7 r4 x7
def bX6_kindFor_15 (fu : Nat) (σ : mt_St) : Option (Int32 × mt_St) :=
  mt_call (fX6_finding fu σ (-1000001 : Int32)) fun r1 s2 =>
  some (r1, s2)
set_option maxHeartbeats 4000000 in
set_option maxRecDepth 20000 in
theorem vX6_kindFor_15 {K : mt_C} {fu : Nat} {r : Int32} {σf : mt_St} (hQ : mt_R K (some .int) (some (.int r)) σf) : ∀ (σ : mt_St), mt_V K cX6_kindFor RX6 9 7 σ 15 [(0, .ref (mt_adr (kG K) 56))] [] (bX6_kindFor_15 fu σ = some (r, σf)) := by
  intro σ
  unfold bX6_kindFor_15
  refine mv_aload_n 0 dX6_kindFor_15 rfl rfl ?_
  refine mv_ldc kc_X6_60 dX6_kindFor_16 ?_
  refine mv_cVwi (As := [.int (-1000001 : Int32)]) (st := []) cal_X6_finding ins_X6_finding ml_X6_66 rfl (by decide) rfl rfl (by decide) rfl (Nat.le_of_ble_eq_true rfl) dX6_kindFor_18 (fun r s h => co_X6_finding h) (fun r1 s2 => ?_)
  exact mv_iret hQ dX6_kindFor_21
def fX6_kindFor (fu : Nat) (σ : mt_St) (a1 : Int32) (a2 : Int32) : Option (Int32 × mt_St) :=
  mt_ask (fX6_isTreaty fu σ a1) fun r1 =>
  if r1 = 0 then
    bX6_kindFor_15 fu σ
  else
    mt_ask (fX6_isThought fu a2) fun r2 =>
    if r2 = 0 then
      bX6_kindFor_15 fu σ
    else
      mt_ask (fX6_treatyAt fu a1 (0 : Int32)) fun r3 =>
      mt_chk (mt_in r3 86) <|
      bX6_kindFor_47 fu fu σ a1 a2 r3 (σ 57 (Int32.toNatClampNeg r3)) (0 : Int32) (10000 : Int32) (0 : Int32)
set_option maxHeartbeats 4000000 in
set_option maxRecDepth 20000 in
theorem vX6_kindFor {K : mt_C} {fu : Nat} {σ : mt_St} {a1 : Int32} {a2 : Int32} {r : Int32} {σf : mt_St} (hQ : mt_R K (some .int) (some (.int r)) σf) : mt_V K cX6_kindFor RX6 9 7 σ 0 [(0, .ref (mt_adr (kG K) 56)), (1, .int a1), (2, .int a2)] [] (fX6_kindFor fu σ a1 a2 = some (r, σf)) := by
  unfold fX6_kindFor
  refine mv_aload_n 0 dX6_kindFor_0 rfl rfl ?_
  refine mv_iload_n 1 dX6_kindFor_1 rfl rfl ?_
  refine mv_cVri (As := [.int a1]) (st := []) cal_X6_isTreaty ins_X6_isTreaty ml_X6_120 rfl (by decide) rfl rfl (by decide) rfl (Nat.le_of_ble_eq_true rfl) dX6_kindFor_2 (fun r h => co_X6_isTreaty h) (fun r1 => ?_)
  refine mv_if_eq 15 dX6_kindFor_5 (by decide) ?_ ?_
  · refine mv_sub (lv' := [(0, .ref (mt_adr (kG K) 56))]) [0] rfl ?_
    exact vX6_kindFor_15 hQ σ
  · refine mv_iload_n 2 dX6_kindFor_8 rfl rfl ?_
    refine mv_cSri (As := [.int a2]) (st := []) cal_X6_isThought sta_X6_isThought ml_X6_198 rfl (by decide) rfl (Nat.le_of_ble_eq_true rfl) dX6_kindFor_9 (fun r h => co_X6_isThought h) (fun r2 => ?_)
    refine mv_if_ne 22 dX6_kindFor_12 (by decide) ?_ ?_
    · refine mv_iload_n 1 dX6_kindFor_22 rfl rfl ?_
      refine mv_iconst (v := 0) dX6_kindFor_23 ic_0 ?_
      refine mv_cSri (As := [.int a1, .int (0 : Int32)]) (st := []) cal_X6_treatyAt sta_X6_treatyAt ml_X6_85 rfl (by decide) rfl (Nat.le_of_ble_eq_true rfl) dX6_kindFor_24 (fun r h => co_X6_treatyAt h) (fun r3 => ?_)
      refine mv_istore_n (lv' := [(0, .ref (mt_adr (kG K) 56)), (1, .int a1), (2, .int a2), (3, .int r3)]) [1, 2, 3, 0] dX6_kindFor_27 rfl (by decide) rfl ?_
      refine mv_aload_n 0 dX6_kindFor_28 rfl rfl ?_
      refine mg_X6_0 fl_X6_9 dX6_kindFor_29 ?_
      refine mv_iload_n 3 dX6_kindFor_32 rfl rfl ?_
      refine mv_iald 86 rfl rfl dX6_kindFor_33 ?_
      refine mv_istore (lv' := [(0, .ref (mt_adr (kG K) 56)), (1, .int a1), (2, .int a2), (3, .int r3), (4, .int (σ 57 (Int32.toNatClampNeg r3)))]) [1, 2, 3, 4, 0] dX6_kindFor_34 (by decide) rfl ?_
      refine mv_iconst (v := 0) dX6_kindFor_36 ic_0 ?_
      refine mv_istore (lv' := [(0, .ref (mt_adr (kG K) 56)), (1, .int a1), (2, .int a2), (3, .int r3), (4, .int (σ 57 (Int32.toNatClampNeg r3))), (5, .int (0 : Int32))]) [1, 2, 3, 4, 5, 0] dX6_kindFor_37 (by decide) rfl ?_
      refine mv_sipush (v := 10000) dX6_kindFor_39 sp_10000 ?_
      refine mv_istore (lv' := [(0, .ref (mt_adr (kG K) 56)), (1, .int a1), (2, .int a2), (3, .int r3), (4, .int (σ 57 (Int32.toNatClampNeg r3))), (5, .int (0 : Int32)), (6, .int (10000 : Int32))]) [1, 2, 3, 4, 5, 6, 0] dX6_kindFor_42 (by decide) rfl ?_
      refine mv_iconst (v := 0) dX6_kindFor_44 ic_0 ?_
      refine mv_istore (lv' := [(0, .ref (mt_adr (kG K) 56)), (1, .int a1), (2, .int a2), (3, .int r3), (4, .int (σ 57 (Int32.toNatClampNeg r3))), (5, .int (0 : Int32)), (6, .int (10000 : Int32)), (7, .int (0 : Int32))]) [1, 2, 3, 4, 5, 6, 7, 0] dX6_kindFor_45 (by decide) rfl ?_
      exact vX6_kindFor_47 hQ fu σ a1 a2 r3 (σ 57 (Int32.toNatClampNeg r3)) (0 : Int32) (10000 : Int32) (0 : Int32)
    · refine mv_sub (lv' := [(0, .ref (mt_adr (kG K) 56))]) [0] rfl ?_
      exact vX6_kindFor_15 hQ σ
theorem co_X6_kindFor {l : Launch} {G : mt_G} {fu : Nat} {σ : mt_St} {a1 : Int32} {a2 : Int32} {r : Int32} {σf : mt_St}  (h : fX6_kindFor fu σ a1 a2 = some (r, σf)) : mt_Con l G yX6_kindFor cX6_kindFor 9 (some .int) 7 [.ref (mt_adr G 56), .int a1, .int a2] σ (some (.int r)) σf :=
  mt_con (by decide) (Nat.le_of_ble_eq_true rfl) (fun K hl hG hQ => by subst hl; subst hG; exact fun _ => vX6_kindFor  hQ h)
theorem dX6_strike_0 : decode cX6_strike 0 = .ok (.aload_n 0, 1) := by decide +kernel
theorem dX6_strike_1 : decode cX6_strike 1 = .ok (.iload_n 1, 1) := by decide +kernel
theorem dX6_strike_2 : decode cX6_strike 2 = .ok (.invokevirtual 120, 3) := by decide +kernel
theorem dX6_strike_5 : decode cX6_strike 5 = .ok (.ifCond .eq 10, 3) := by decide +kernel
theorem dX6_strike_8 : decode cX6_strike 8 = .ok (.iload_n 2, 1) := by decide +kernel
theorem dX6_strike_9 : decode cX6_strike 9 = .ok (.invokestatic 198, 3) := by decide +kernel
theorem dX6_strike_12 : decode cX6_strike 12 = .ok (.ifCond .ne 10, 3) := by decide +kernel
theorem dX6_strike_15 : decode cX6_strike 15 = .ok (.aload_n 0, 1) := by decide +kernel
theorem dX6_strike_16 : decode cX6_strike 16 = .ok (.ldc 60, 2) := by decide +kernel
theorem dX6_strike_18 : decode cX6_strike 18 = .ok (.invokevirtual 66, 3) := by decide +kernel
theorem dX6_strike_21 : decode cX6_strike 21 = .ok (.ireturn, 1) := by decide +kernel
theorem dX6_strike_22 : decode cX6_strike 22 = .ok (.iload_n 1, 1) := by decide +kernel
theorem dX6_strike_23 : decode cX6_strike 23 = .ok (.iconst 3, 1) := by decide +kernel
theorem dX6_strike_24 : decode cX6_strike 24 = .ok (.invokestatic 85, 3) := by decide +kernel
theorem dX6_strike_27 : decode cX6_strike 27 = .ok (.istore_n 3, 1) := by decide +kernel
theorem dX6_strike_28 : decode cX6_strike 28 = .ok (.aload_n 0, 1) := by decide +kernel
theorem dX6_strike_29 : decode cX6_strike 29 = .ok (.getfield 9, 3) := by decide +kernel
theorem dX6_strike_32 : decode cX6_strike 32 = .ok (.iload_n 3, 1) := by decide +kernel
theorem dX6_strike_33 : decode cX6_strike 33 = .ok (.iaload, 1) := by decide +kernel
theorem dX6_strike_34 : decode cX6_strike 34 = .ok (.istore 4, 2) := by decide +kernel
theorem dX6_strike_36 : decode cX6_strike 36 = .ok (.iconst 0, 1) := by decide +kernel
theorem dX6_strike_37 : decode cX6_strike 37 = .ok (.istore 5, 2) := by decide +kernel
theorem dX6_strike_39 : decode cX6_strike 39 = .ok (.iconst 0, 1) := by decide +kernel
theorem dX6_strike_40 : decode cX6_strike 40 = .ok (.istore 6, 2) := by decide +kernel
theorem dX6_strike_42 : decode cX6_strike 42 = .ok (.iload 6, 2) := by decide +kernel
theorem dX6_strike_44 : decode cX6_strike 44 = .ok (.bipush 12, 2) := by decide +kernel
theorem dX6_strike_46 : decode cX6_strike 46 = .ok (.if_icmp .ge 42, 3) := by decide +kernel
theorem dX6_strike_49 : decode cX6_strike 49 = .ok (.aload_n 0, 1) := by decide +kernel
theorem dX6_strike_50 : decode cX6_strike 50 = .ok (.getfield 9, 3) := by decide +kernel
theorem dX6_strike_53 : decode cX6_strike 53 = .ok (.iload_n 3, 1) := by decide +kernel
theorem dX6_strike_54 : decode cX6_strike 54 = .ok (.iload 4, 2) := by decide +kernel
theorem dX6_strike_56 : decode cX6_strike 56 = .ok (.iconst 1, 1) := by decide +kernel
theorem dX6_strike_57 : decode cX6_strike 57 = .ok (.iload 6, 2) := by decide +kernel
theorem dX6_strike_59 : decode cX6_strike 59 = .ok (.ishl, 1) := by decide +kernel
theorem dX6_strike_60 : decode cX6_strike 60 = .ok (.iconst (-1), 1) := by decide +kernel
theorem dX6_strike_61 : decode cX6_strike 61 = .ok (.ixor, 1) := by decide +kernel
theorem dX6_strike_62 : decode cX6_strike 62 = .ok (.iand, 1) := by decide +kernel
theorem dX6_strike_63 : decode cX6_strike 63 = .ok (.iastore, 1) := by decide +kernel
theorem dX6_strike_64 : decode cX6_strike 64 = .ok (.iload 5, 2) := by decide +kernel
theorem dX6_strike_66 : decode cX6_strike 66 = .ok (.aload_n 0, 1) := by decide +kernel
theorem dX6_strike_67 : decode cX6_strike 67 = .ok (.iload_n 1, 1) := by decide +kernel
theorem dX6_strike_68 : decode cX6_strike 68 = .ok (.iconst 4, 1) := by decide +kernel
theorem dX6_strike_69 : decode cX6_strike 69 = .ok (.invokestatic 85, 3) := by decide +kernel
theorem dX6_strike_72 : decode cX6_strike 72 = .ok (.iload_n 2, 1) := by decide +kernel
theorem dX6_strike_73 : decode cX6_strike 73 = .ok (.invokevirtual 189, 3) := by decide +kernel
theorem dX6_strike_76 : decode cX6_strike 76 = .ok (.iload 6, 2) := by decide +kernel
theorem dX6_strike_78 : decode cX6_strike 78 = .ok (.ishl, 1) := by decide +kernel
theorem dX6_strike_79 : decode cX6_strike 79 = .ok (.ior, 1) := by decide +kernel
theorem dX6_strike_80 : decode cX6_strike 80 = .ok (.istore 5, 2) := by decide +kernel
theorem dX6_strike_82 : decode cX6_strike 82 = .ok (.iinc 6 1, 3) := by decide +kernel
theorem dX6_strike_85 : decode cX6_strike 85 = .ok (.goto (-43), 3) := by decide +kernel
theorem dX6_strike_88 : decode cX6_strike 88 = .ok (.aload_n 0, 1) := by decide +kernel
theorem dX6_strike_89 : decode cX6_strike 89 = .ok (.getfield 9, 3) := by decide +kernel
theorem dX6_strike_92 : decode cX6_strike 92 = .ok (.iload_n 3, 1) := by decide +kernel
theorem dX6_strike_93 : decode cX6_strike 93 = .ok (.iload 4, 2) := by decide +kernel
theorem dX6_strike_95 : decode cX6_strike 95 = .ok (.iastore, 1) := by decide +kernel
theorem dX6_strike_96 : decode cX6_strike 96 = .ok (.iload 5, 2) := by decide +kernel
theorem dX6_strike_98 : decode cX6_strike 98 = .ok (.ireturn, 1) := by decide +kernel
def bX6_strike_42 (fu : Nat) : Nat → mt_St → Int32 → Int32 → Int32 → Int32 → Int32 → Int32 → Option (Int32 × mt_St)
  | 0, _, _, _, _, _, _, _ => none
  | n + 1, σ, x1, x2, x3, x4, x5, x6 =>
    if (12 : Int32) ≤ x6 then
      mt_chk (mt_in x3 86) <|
      mt_bnd (mt_up σ 57 (Int32.toNatClampNeg x3) x4) fun s1 =>
      some (x5, s1)
    else
      mt_chk (mt_in x3 86) <|
      mt_bnd (mt_up σ 57 (Int32.toNatClampNeg x3) (x4 &&& (((1 : Int32) <<< (x6 &&& 31)) ^^^ (-1 : Int32)))) fun s2 =>
      mt_ask (fX6_treatyAt fu x1 (4 : Int32)) fun r3 =>
      mt_call (fX6_behind fu s2 r3 x2) fun r4 s5 =>
      bX6_strike_42 fu n s5 x1 x2 x3 x4 (x5 ||| (r4 <<< (x6 &&& 31))) (x6 + 1)
set_option maxHeartbeats 4000000 in
set_option maxRecDepth 20000 in
theorem vX6_strike_42 {K : mt_C} {fu : Nat} {r : Int32} {σf : mt_St} (hQ : mt_R K (some .int) (some (.int r)) σf) : ∀ (n : Nat) (σ : mt_St) (x1 : Int32) (x2 : Int32) (x3 : Int32) (x4 : Int32) (x5 : Int32) (x6 : Int32), mt_V K cX6_strike RX6 7 7 σ 42 [(0, .ref (mt_adr (kG K) 56)), (1, .int x1), (2, .int x2), (3, .int x3), (4, .int x4), (5, .int x5), (6, .int x6)] [] (bX6_strike_42 fu n σ x1 x2 x3 x4 x5 x6 = some (r, σf)) := by
  intro n
  induction n with
  | zero => intro σ x1 x2 x3 x4 x5 x6; intro hP; unfold bX6_strike_42 at hP; cases hP
  | succ n ih =>
    intro σ x1 x2 x3 x4 x5 x6
    unfold bX6_strike_42
    refine mv_iload 6 dX6_strike_42 rfl ?_
    refine mv_bipush (v := 12) dX6_strike_44 bp_12 ?_
    refine mv_icmp_ge 88 dX6_strike_46 (by decide) ?_ ?_
    · refine mv_aload_n 0 dX6_strike_88 rfl rfl ?_
      refine mg_X6_0 fl_X6_9 dX6_strike_89 ?_
      refine mv_iload_n 3 dX6_strike_92 rfl rfl ?_
      refine mv_iload 4 dX6_strike_93 rfl ?_
      refine mv_iast 86 rfl rfl dX6_strike_95 (fun s1 => ?_)
      refine mv_iload 5 dX6_strike_96 rfl ?_
      exact mv_iret hQ dX6_strike_98
    · refine mv_aload_n 0 dX6_strike_49 rfl rfl ?_
      refine mg_X6_0 fl_X6_9 dX6_strike_50 ?_
      refine mv_iload_n 3 dX6_strike_53 rfl rfl ?_
      refine mv_iload 4 dX6_strike_54 rfl ?_
      refine mv_iconst (v := 1) dX6_strike_56 ic_1 ?_
      refine mv_iload 6 dX6_strike_57 rfl ?_
      refine mv_ishl dX6_strike_59 ?_
      refine mv_iconst (v := -1) dX6_strike_60 ic_m1 ?_
      refine mv_ixor dX6_strike_61 ?_
      refine mv_iand dX6_strike_62 ?_
      refine mv_iast 86 rfl rfl dX6_strike_63 (fun s2 => ?_)
      refine mv_iload 5 dX6_strike_64 rfl ?_
      refine mv_aload_n 0 dX6_strike_66 rfl rfl ?_
      refine mv_iload_n 1 dX6_strike_67 rfl rfl ?_
      refine mv_iconst (v := 4) dX6_strike_68 ic_4 ?_
      refine mv_cSri (As := [.int x1, .int (4 : Int32)]) (st := [.ref (mt_adr (kG K) 56), .int x5]) cal_X6_treatyAt sta_X6_treatyAt ml_X6_85 rfl (by decide) rfl (Nat.le_of_ble_eq_true rfl) dX6_strike_69 (fun r h => co_X6_treatyAt h) (fun r3 => ?_)
      refine mv_iload_n 2 dX6_strike_72 rfl rfl ?_
      refine mv_cVwi (As := [.int r3, .int x2]) (st := [.int x5]) cal_X6_behind ins_X6_behind ml_X6_189 rfl (by decide) rfl rfl (by decide) rfl (Nat.le_of_ble_eq_true rfl) dX6_strike_73 (fun r s h => co_X6_behind h) (fun r4 s5 => ?_)
      refine mv_iload 6 dX6_strike_76 rfl ?_
      refine mv_ishl dX6_strike_78 ?_
      refine mv_ior dX6_strike_79 ?_
      refine mv_istore (lv' := [(0, .ref (mt_adr (kG K) 56)), (1, .int x1), (2, .int x2), (3, .int x3), (4, .int x4), (5, .int (x5 ||| (r4 <<< (x6 &&& 31)))), (6, .int x6)]) [1, 2, 3, 4, 5, 0, 6] dX6_strike_80 (by decide) rfl ?_
      refine mv_iinc (k0 := 6) (v := x6 + 1) (lv' := [(0, .ref (mt_adr (kG K) 56)), (1, .int x1), (2, .int x2), (3, .int x3), (4, .int x4), (5, .int (x5 ||| (r4 <<< (x6 &&& 31)))), (6, .int (x6 + 1))]) [1, 2, 3, 4, 5, 6, 0] dX6_strike_82 rfl (mt_inc ic_1) (by decide) rfl ?_
      refine mv_goto 42 dX6_strike_85 (by decide) ?_
      exact ih s5 x1 x2 x3 x4 (x5 ||| (r4 <<< (x6 &&& 31))) (x6 + 1)
def bX6_strike_15 (fu : Nat) (σ : mt_St) : Option (Int32 × mt_St) :=
  mt_call (fX6_finding fu σ (-1000001 : Int32)) fun r1 s2 =>
  some (r1, s2)
set_option maxHeartbeats 4000000 in
set_option maxRecDepth 20000 in
theorem vX6_strike_15 {K : mt_C} {fu : Nat} {r : Int32} {σf : mt_St} (hQ : mt_R K (some .int) (some (.int r)) σf) : ∀ (σ : mt_St), mt_V K cX6_strike RX6 7 7 σ 15 [(0, .ref (mt_adr (kG K) 56))] [] (bX6_strike_15 fu σ = some (r, σf)) := by
  intro σ
  unfold bX6_strike_15
  refine mv_aload_n 0 dX6_strike_15 rfl rfl ?_
  refine mv_ldc kc_X6_60 dX6_strike_16 ?_
  refine mv_cVwi (As := [.int (-1000001 : Int32)]) (st := []) cal_X6_finding ins_X6_finding ml_X6_66 rfl (by decide) rfl rfl (by decide) rfl (Nat.le_of_ble_eq_true rfl) dX6_strike_18 (fun r s h => co_X6_finding h) (fun r1 s2 => ?_)
  exact mv_iret hQ dX6_strike_21
def fX6_strike (fu : Nat) (σ : mt_St) (a1 : Int32) (a2 : Int32) : Option (Int32 × mt_St) :=
  mt_ask (fX6_isTreaty fu σ a1) fun r1 =>
  if r1 = 0 then
    bX6_strike_15 fu σ
  else
    mt_ask (fX6_isThought fu a2) fun r2 =>
    if r2 = 0 then
      bX6_strike_15 fu σ
    else
      mt_ask (fX6_treatyAt fu a1 (3 : Int32)) fun r3 =>
      mt_chk (mt_in r3 86) <|
      bX6_strike_42 fu fu σ a1 a2 r3 (σ 57 (Int32.toNatClampNeg r3)) (0 : Int32) (0 : Int32)
set_option maxHeartbeats 4000000 in
set_option maxRecDepth 20000 in
theorem vX6_strike {K : mt_C} {fu : Nat} {σ : mt_St} {a1 : Int32} {a2 : Int32} {r : Int32} {σf : mt_St} (hQ : mt_R K (some .int) (some (.int r)) σf) : mt_V K cX6_strike RX6 7 7 σ 0 [(0, .ref (mt_adr (kG K) 56)), (1, .int a1), (2, .int a2)] [] (fX6_strike fu σ a1 a2 = some (r, σf)) := by
  unfold fX6_strike
  refine mv_aload_n 0 dX6_strike_0 rfl rfl ?_
  refine mv_iload_n 1 dX6_strike_1 rfl rfl ?_
  refine mv_cVri (As := [.int a1]) (st := []) cal_X6_isTreaty ins_X6_isTreaty ml_X6_120 rfl (by decide) rfl rfl (by decide) rfl (Nat.le_of_ble_eq_true rfl) dX6_strike_2 (fun r h => co_X6_isTreaty h) (fun r1 => ?_)
  refine mv_if_eq 15 dX6_strike_5 (by decide) ?_ ?_
  · refine mv_sub (lv' := [(0, .ref (mt_adr (kG K) 56))]) [0] rfl ?_
    exact vX6_strike_15 hQ σ
  · refine mv_iload_n 2 dX6_strike_8 rfl rfl ?_
    refine mv_cSri (As := [.int a2]) (st := []) cal_X6_isThought sta_X6_isThought ml_X6_198 rfl (by decide) rfl (Nat.le_of_ble_eq_true rfl) dX6_strike_9 (fun r h => co_X6_isThought h) (fun r2 => ?_)
    refine mv_if_ne 22 dX6_strike_12 (by decide) ?_ ?_
    · refine mv_iload_n 1 dX6_strike_22 rfl rfl ?_
      refine mv_iconst (v := 3) dX6_strike_23 ic_3 ?_
      refine mv_cSri (As := [.int a1, .int (3 : Int32)]) (st := []) cal_X6_treatyAt sta_X6_treatyAt ml_X6_85 rfl (by decide) rfl (Nat.le_of_ble_eq_true rfl) dX6_strike_24 (fun r h => co_X6_treatyAt h) (fun r3 => ?_)
      refine mv_istore_n (lv' := [(0, .ref (mt_adr (kG K) 56)), (1, .int a1), (2, .int a2), (3, .int r3)]) [1, 2, 3, 0] dX6_strike_27 rfl (by decide) rfl ?_
      refine mv_aload_n 0 dX6_strike_28 rfl rfl ?_
      refine mg_X6_0 fl_X6_9 dX6_strike_29 ?_
      refine mv_iload_n 3 dX6_strike_32 rfl rfl ?_
      refine mv_iald 86 rfl rfl dX6_strike_33 ?_
      refine mv_istore (lv' := [(0, .ref (mt_adr (kG K) 56)), (1, .int a1), (2, .int a2), (3, .int r3), (4, .int (σ 57 (Int32.toNatClampNeg r3)))]) [1, 2, 3, 4, 0] dX6_strike_34 (by decide) rfl ?_
      refine mv_iconst (v := 0) dX6_strike_36 ic_0 ?_
      refine mv_istore (lv' := [(0, .ref (mt_adr (kG K) 56)), (1, .int a1), (2, .int a2), (3, .int r3), (4, .int (σ 57 (Int32.toNatClampNeg r3))), (5, .int (0 : Int32))]) [1, 2, 3, 4, 5, 0] dX6_strike_37 (by decide) rfl ?_
      refine mv_iconst (v := 0) dX6_strike_39 ic_0 ?_
      refine mv_istore (lv' := [(0, .ref (mt_adr (kG K) 56)), (1, .int a1), (2, .int a2), (3, .int r3), (4, .int (σ 57 (Int32.toNatClampNeg r3))), (5, .int (0 : Int32)), (6, .int (0 : Int32))]) [1, 2, 3, 4, 5, 6, 0] dX6_strike_40 (by decide) rfl ?_
      exact vX6_strike_42 hQ fu σ a1 a2 r3 (σ 57 (Int32.toNatClampNeg r3)) (0 : Int32) (0 : Int32)
    · refine mv_sub (lv' := [(0, .ref (mt_adr (kG K) 56))]) [0] rfl ?_
      exact vX6_strike_15 hQ σ
theorem co_X6_strike {l : Launch} {G : mt_G} {fu : Nat} {σ : mt_St} {a1 : Int32} {a2 : Int32} {r : Int32} {σf : mt_St}  (h : fX6_strike fu σ a1 a2 = some (r, σf)) : mt_Con l G yX6_strike cX6_strike 7 (some .int) 7 [.ref (mt_adr G 56), .int a1, .int a2] σ (some (.int r)) σf :=
  mt_con (by decide) (Nat.le_of_ble_eq_true rfl) (fun K hl hG hQ => by subst hl; subst hG; exact fun _ => vX6_strike  hQ h)
theorem dX6_isLulled_0 : decode cX6_isLulled 0 = .ok (.aload_n 0, 1) := by decide +kernel
theorem dX6_isLulled_1 : decode cX6_isLulled 1 = .ok (.getfield 9, 3) := by decide +kernel
theorem dX6_isLulled_4 : decode cX6_isLulled 4 = .ok (.aload_n 0, 1) := by decide +kernel
theorem dX6_isLulled_5 : decode cX6_isLulled 5 = .ok (.getfield 16, 3) := by decide +kernel
theorem dX6_isLulled_8 : decode cX6_isLulled 8 = .ok (.invokestatic 61, 3) := by decide +kernel
theorem dX6_isLulled_11 : decode cX6_isLulled 11 = .ok (.aload_n 0, 1) := by decide +kernel
theorem dX6_isLulled_12 : decode cX6_isLulled 12 = .ok (.getfield 9, 3) := by decide +kernel
theorem dX6_isLulled_15 : decode cX6_isLulled 15 = .ok (.iconst 5, 1) := by decide +kernel
theorem dX6_isLulled_16 : decode cX6_isLulled 16 = .ok (.dup2, 1) := by decide +kernel
theorem dX6_isLulled_17 : decode cX6_isLulled 17 = .ok (.iaload, 1) := by decide +kernel
theorem dX6_isLulled_18 : decode cX6_isLulled 18 = .ok (.iload_n 1, 1) := by decide +kernel
theorem dX6_isLulled_19 : decode cX6_isLulled 19 = .ok (.iconst (-1), 1) := by decide +kernel
theorem dX6_isLulled_20 : decode cX6_isLulled 20 = .ok (.ixor, 1) := by decide +kernel
theorem dX6_isLulled_21 : decode cX6_isLulled 21 = .ok (.iand, 1) := by decide +kernel
theorem dX6_isLulled_22 : decode cX6_isLulled 22 = .ok (.iastore, 1) := by decide +kernel
theorem dX6_isLulled_23 : decode cX6_isLulled 23 = .ok (.iconst 0, 1) := by decide +kernel
theorem dX6_isLulled_24 : decode cX6_isLulled 24 = .ok (.istore_n 3, 1) := by decide +kernel
theorem dX6_isLulled_25 : decode cX6_isLulled 25 = .ok (.iload_n 3, 1) := by decide +kernel
theorem dX6_isLulled_26 : decode cX6_isLulled 26 = .ok (.bipush 6, 2) := by decide +kernel
theorem dX6_isLulled_28 : decode cX6_isLulled 28 = .ok (.if_icmp .ge 51, 3) := by decide +kernel
theorem dX6_isLulled_31 : decode cX6_isLulled 31 = .ok (.aload_n 0, 1) := by decide +kernel
theorem dX6_isLulled_32 : decode cX6_isLulled 32 = .ok (.getfield 9, 3) := by decide +kernel
theorem dX6_isLulled_35 : decode cX6_isLulled 35 = .ok (.bipush 6, 2) := by decide +kernel
theorem dX6_isLulled_37 : decode cX6_isLulled 37 = .ok (.iload_n 3, 1) := by decide +kernel
theorem dX6_isLulled_38 : decode cX6_isLulled 38 = .ok (.iadd, 1) := by decide +kernel
theorem dX6_isLulled_39 : decode cX6_isLulled 39 = .ok (.iaload, 1) := by decide +kernel
theorem dX6_isLulled_40 : decode cX6_isLulled 40 = .ok (.bipush 12, 2) := by decide +kernel
theorem dX6_isLulled_42 : decode cX6_isLulled 42 = .ok (.if_icmp .ge 31, 3) := by decide +kernel
theorem dX6_isLulled_45 : decode cX6_isLulled 45 = .ok (.iload_n 1, 1) := by decide +kernel
theorem dX6_isLulled_46 : decode cX6_isLulled 46 = .ok (.aload_n 0, 1) := by decide +kernel
theorem dX6_isLulled_47 : decode cX6_isLulled 47 = .ok (.getfield 9, 3) := by decide +kernel
theorem dX6_isLulled_50 : decode cX6_isLulled 50 = .ok (.bipush 6, 2) := by decide +kernel
theorem dX6_isLulled_52 : decode cX6_isLulled 52 = .ok (.iload_n 3, 1) := by decide +kernel
theorem dX6_isLulled_53 : decode cX6_isLulled 53 = .ok (.iadd, 1) := by decide +kernel
theorem dX6_isLulled_54 : decode cX6_isLulled 54 = .ok (.iaload, 1) := by decide +kernel
theorem dX6_isLulled_55 : decode cX6_isLulled 55 = .ok (.ishr, 1) := by decide +kernel
theorem dX6_isLulled_56 : decode cX6_isLulled 56 = .ok (.iconst 1, 1) := by decide +kernel
theorem dX6_isLulled_57 : decode cX6_isLulled 57 = .ok (.iand, 1) := by decide +kernel
theorem dX6_isLulled_58 : decode cX6_isLulled 58 = .ok (.iconst 1, 1) := by decide +kernel
theorem dX6_isLulled_59 : decode cX6_isLulled 59 = .ok (.if_icmp .ne 14, 3) := by decide +kernel
theorem dX6_isLulled_62 : decode cX6_isLulled 62 = .ok (.aload_n 0, 1) := by decide +kernel
theorem dX6_isLulled_63 : decode cX6_isLulled 63 = .ok (.getfield 9, 3) := by decide +kernel
theorem dX6_isLulled_66 : decode cX6_isLulled 66 = .ok (.bipush 6, 2) := by decide +kernel
theorem dX6_isLulled_68 : decode cX6_isLulled 68 = .ok (.iload_n 3, 1) := by decide +kernel
theorem dX6_isLulled_69 : decode cX6_isLulled 69 = .ok (.iadd, 1) := by decide +kernel
theorem dX6_isLulled_70 : decode cX6_isLulled 70 = .ok (.bipush 12, 2) := by decide +kernel
theorem dX6_isLulled_72 : decode cX6_isLulled 72 = .ok (.iastore, 1) := by decide +kernel
theorem dX6_isLulled_73 : decode cX6_isLulled 73 = .ok (.iinc 3 1, 3) := by decide +kernel
theorem dX6_isLulled_76 : decode cX6_isLulled 76 = .ok (.goto (-51), 3) := by decide +kernel
theorem dX6_isLulled_79 : decode cX6_isLulled 79 = .ok (.aload_n 0, 1) := by decide +kernel
theorem dX6_isLulled_80 : decode cX6_isLulled 80 = .ok (.iconst 0, 1) := by decide +kernel
theorem dX6_isLulled_81 : decode cX6_isLulled 81 = .ok (.putfield 145, 3) := by decide +kernel
theorem dX6_isLulled_84 : decode cX6_isLulled 84 = .ok (.iconst 0, 1) := by decide +kernel
theorem dX6_isLulled_85 : decode cX6_isLulled 85 = .ok (.istore_n 3, 1) := by decide +kernel
theorem dX6_isLulled_86 : decode cX6_isLulled 86 = .ok (.iload_n 3, 1) := by decide +kernel
theorem dX6_isLulled_87 : decode cX6_isLulled 87 = .ok (.iload_n 2, 1) := by decide +kernel
theorem dX6_isLulled_88 : decode cX6_isLulled 88 = .ok (.if_icmp .ge 20, 3) := by decide +kernel
theorem dX6_isLulled_91 : decode cX6_isLulled 91 = .ok (.aload_n 0, 1) := by decide +kernel
theorem dX6_isLulled_92 : decode cX6_isLulled 92 = .ok (.getfield 145, 3) := by decide +kernel
theorem dX6_isLulled_95 : decode cX6_isLulled 95 = .ok (.ifCond .ne 13, 3) := by decide +kernel
theorem dX6_isLulled_98 : decode cX6_isLulled 98 = .ok (.aload_n 0, 1) := by decide +kernel
theorem dX6_isLulled_99 : decode cX6_isLulled 99 = .ok (.invokevirtual 160, 3) := by decide +kernel
theorem dX6_isLulled_102 : decode cX6_isLulled 102 = .ok (.iinc 3 1, 3) := by decide +kernel
theorem dX6_isLulled_105 : decode cX6_isLulled 105 = .ok (.goto (-19), 3) := by decide +kernel
theorem dX6_isLulled_108 : decode cX6_isLulled 108 = .ok (.aload_n 0, 1) := by decide +kernel
theorem dX6_isLulled_109 : decode cX6_isLulled 109 = .ok (.getfield 16, 3) := by decide +kernel
theorem dX6_isLulled_112 : decode cX6_isLulled 112 = .ok (.aload_n 0, 1) := by decide +kernel
theorem dX6_isLulled_113 : decode cX6_isLulled 113 = .ok (.getfield 9, 3) := by decide +kernel
theorem dX6_isLulled_116 : decode cX6_isLulled 116 = .ok (.invokestatic 61, 3) := by decide +kernel
theorem dX6_isLulled_119 : decode cX6_isLulled 119 = .ok (.aload_n 0, 1) := by decide +kernel
theorem dX6_isLulled_120 : decode cX6_isLulled 120 = .ok (.getfield 145, 3) := by decide +kernel
theorem dX6_isLulled_123 : decode cX6_isLulled 123 = .ok (.ifCond .ne 7, 3) := by decide +kernel
theorem dX6_isLulled_126 : decode cX6_isLulled 126 = .ok (.iconst 1, 1) := by decide +kernel
theorem dX6_isLulled_127 : decode cX6_isLulled 127 = .ok (.goto 4, 3) := by decide +kernel
theorem dX6_isLulled_130 : decode cX6_isLulled 130 = .ok (.iconst 0, 1) := by decide +kernel
theorem dX6_isLulled_131 : decode cX6_isLulled 131 = .ok (.ireturn, 1) := by decide +kernel
def bX6_isLulled_131 (fu : Nat) (σ : mt_St) (y0 : Int32) : Option (Int32 × mt_St) :=
  mt_chk (mt_b01 y0) (some (y0, σ))
set_option maxHeartbeats 4000000 in
set_option maxRecDepth 20000 in
theorem vX6_isLulled_131 {K : mt_C} {fu : Nat} {r : Int32} {σf : mt_St} (hQ : mt_R K (some .boolean) (some (.int r)) σf) : ∀ (σ : mt_St) (y0 : Int32), mt_V K cX6_isLulled RX6 4 5 σ 131 [] [.int y0] (bX6_isLulled_131 fu σ y0 = some (r, σf)) := by
  intro σ y0
  unfold bX6_isLulled_131
  exact mv_zret hQ dX6_isLulled_131
def bX6_isLulled_108 (fu : Nat) (σ : mt_St) : Option (Int32 × mt_St) :=
  mt_call (fX6_copyRow fu σ 59 57) fun _ s2 =>
  if (s2 56 5) = 0 then
    bX6_isLulled_131 fu s2 (1 : Int32)
  else
    bX6_isLulled_131 fu s2 (0 : Int32)
set_option maxHeartbeats 4000000 in
set_option maxRecDepth 20000 in
theorem vX6_isLulled_108 {K : mt_C} {fu : Nat} {r : Int32} {σf : mt_St} (hQ : mt_R K (some .boolean) (some (.int r)) σf) : ∀ (σ : mt_St), mt_V K cX6_isLulled RX6 4 5 σ 108 [(0, .ref (mt_adr (kG K) 56))] [] (bX6_isLulled_108 fu σ = some (r, σf)) := by
  intro σ
  unfold bX6_isLulled_108
  refine mv_aload_n 0 dX6_isLulled_108 rfl rfl ?_
  refine mg_X6_2 fl_X6_16 dX6_isLulled_109 ?_
  refine mv_aload_n 0 dX6_isLulled_112 rfl rfl ?_
  refine mg_X6_0 fl_X6_9 dX6_isLulled_113 ?_
  refine mv_cSwv (As := [.ref (mt_adr (kG K) 59), .ref (mt_adr (kG K) 57)]) (st := []) cal_X6_copyRow sta_X6_copyRow ml_X6_61 rfl (by decide) rfl (Nat.le_of_ble_eq_true rfl) dX6_isLulled_116 (fun r s h => co_X6_copyRow rfl rfl rfl rfl h) (fun r1 s2 => ?_)
  refine mv_aload_n 0 dX6_isLulled_119 rfl rfl ?_
  refine mg_X6_5 fl_X6_145 dX6_isLulled_120 ?_
  refine mv_if_ne 130 dX6_isLulled_123 (by decide) ?_ ?_
  · refine mv_iconst (v := 0) dX6_isLulled_130 ic_0 ?_
    refine mv_sub (lv' := []) [] rfl ?_
    exact vX6_isLulled_131 hQ s2 (0 : Int32)
  · refine mv_iconst (v := 1) dX6_isLulled_126 ic_1 ?_
    refine mv_goto 131 dX6_isLulled_127 (by decide) ?_
    refine mv_sub (lv' := []) [] rfl ?_
    exact vX6_isLulled_131 hQ s2 (1 : Int32)
def bX6_isLulled_86 (fu : Nat) : Nat → mt_St → Int32 → Int32 → Option (Int32 × mt_St)
  | 0, _, _, _ => none
  | n + 1, σ, x2, x3 =>
    if x2 ≤ x3 then
      bX6_isLulled_108 fu σ
    else
      if (σ 56 5) = 0 then
        mt_call (fX6_year fu σ) fun _ s2 =>
        bX6_isLulled_86 fu n s2 x2 (x3 + 1)
      else
        bX6_isLulled_108 fu σ
set_option maxHeartbeats 4000000 in
set_option maxRecDepth 20000 in
theorem vX6_isLulled_86 {K : mt_C} {fu : Nat} {r : Int32} {σf : mt_St} (hQ : mt_R K (some .boolean) (some (.int r)) σf) : ∀ (n : Nat) (σ : mt_St) (x2 : Int32) (x3 : Int32), mt_V K cX6_isLulled RX6 4 5 σ 86 [(0, .ref (mt_adr (kG K) 56)), (2, .int x2), (3, .int x3)] [] (bX6_isLulled_86 fu n σ x2 x3 = some (r, σf)) := by
  intro n
  induction n with
  | zero => intro σ x2 x3; intro hP; unfold bX6_isLulled_86 at hP; cases hP
  | succ n ih =>
    intro σ x2 x3
    unfold bX6_isLulled_86
    refine mv_iload_n 2 dX6_isLulled_86 rfl rfl ?_
    refine mv_iload_n 1 dX6_isLulled_87 rfl rfl ?_
    refine mv_icmp_ge 108 dX6_isLulled_88 (by decide) ?_ ?_
    · refine mv_sub (lv' := [(0, .ref (mt_adr (kG K) 56))]) [0] rfl ?_
      exact vX6_isLulled_108 hQ σ
    · refine mv_aload_n 0 dX6_isLulled_91 rfl rfl ?_
      refine mg_X6_5 fl_X6_145 dX6_isLulled_92 ?_
      refine mv_if_ne 108 dX6_isLulled_95 (by decide) ?_ ?_
      · refine mv_sub (lv' := [(0, .ref (mt_adr (kG K) 56))]) [0] rfl ?_
        exact vX6_isLulled_108 hQ σ
      · refine mv_aload_n 0 dX6_isLulled_98 rfl rfl ?_
        refine mv_cVwv (As := []) (st := []) cal_X6_year ins_X6_year ml_X6_160 rfl (by decide) rfl rfl (by decide) rfl (Nat.le_of_ble_eq_true rfl) dX6_isLulled_99 (fun r s h => co_X6_year h) (fun r1 s2 => ?_)
        refine mv_iinc (k0 := 2) (v := x3 + 1) (lv' := [(0, .ref (mt_adr (kG K) 56)), (2, .int x2), (3, .int (x3 + 1))]) [1, 2, 0] dX6_isLulled_102 rfl (mt_inc ic_1) (by decide) rfl ?_
        refine mv_goto 86 dX6_isLulled_105 (by decide) ?_
        exact ih s2 x2 (x3 + 1)
def bX6_isLulled_73 (fu : Nat) (k25 : mt_St → Int32 → Int32 → Int32 → Option (Int32 × mt_St)) (σ : mt_St) (x1 : Int32) (x2 : Int32) (x3 : Int32) : Option (Int32 × mt_St) :=
  k25 σ x1 x2 (x3 + 1)
set_option maxHeartbeats 4000000 in
set_option maxRecDepth 20000 in
theorem vX6_isLulled_73 {K : mt_C} {fu : Nat} {r : Int32} {σf : mt_St} (hQ : mt_R K (some .boolean) (some (.int r)) σf) {k25 : mt_St → Int32 → Int32 → Int32 → Option (Int32 × mt_St)} (hk25 : ∀ (s0 : mt_St) (x1 : Int32) (x2 : Int32) (x3 : Int32), mt_V K cX6_isLulled RX6 4 5 s0 25 [(0, .ref (mt_adr (kG K) 56)), (1, .int x1), (2, .int x2), (3, .int x3)] [] (k25 s0 x1 x2 x3 = some (r, σf))) : ∀ (σ : mt_St) (x1 : Int32) (x2 : Int32) (x3 : Int32), mt_V K cX6_isLulled RX6 4 5 σ 73 [(0, .ref (mt_adr (kG K) 56)), (1, .int x1), (2, .int x2), (3, .int x3)] [] (bX6_isLulled_73 fu k25 σ x1 x2 x3 = some (r, σf)) := by
  intro σ x1 x2 x3
  unfold bX6_isLulled_73
  refine mv_iinc (k0 := 3) (v := x3 + 1) (lv' := [(0, .ref (mt_adr (kG K) 56)), (1, .int x1), (2, .int x2), (3, .int (x3 + 1))]) [1, 2, 3, 0] dX6_isLulled_73 rfl (mt_inc ic_1) (by decide) rfl ?_
  refine mv_goto 25 dX6_isLulled_76 (by decide) ?_
  exact hk25 σ x1 x2 (x3 + 1)
def bX6_isLulled_25 (fu : Nat) : Nat → mt_St → Int32 → Int32 → Int32 → Option (Int32 × mt_St)
  | 0, _, _, _, _ => none
  | n + 1, σ, x1, x2, x3 =>
    if (6 : Int32) ≤ x3 then
      mt_bnd (mt_up σ 56 5 (0 : Int32)) fun s1 =>
      bX6_isLulled_86 fu fu s1 x2 (0 : Int32)
    else
      mt_chk (mt_in ((6 : Int32) + x3) 86) <|
      if (12 : Int32) ≤ (σ 57 (Int32.toNatClampNeg ((6 : Int32) + x3))) then
        bX6_isLulled_73 fu (fun s0 x1 x2 x3 => bX6_isLulled_25 fu n s0 x1 x2 x3) σ x1 x2 x3
      else
        mt_chk (mt_in ((6 : Int32) + x3) 86) <|
        if ((x1 >>> ((σ 57 (Int32.toNatClampNeg ((6 : Int32) + x3))) &&& 31)) &&& (1 : Int32)) = (1 : Int32) then
          mt_chk (mt_in ((6 : Int32) + x3) 86) <|
          mt_bnd (mt_up σ 57 (Int32.toNatClampNeg ((6 : Int32) + x3)) (12 : Int32)) fun s2 =>
          bX6_isLulled_73 fu (fun s0 x1 x2 x3 => bX6_isLulled_25 fu n s0 x1 x2 x3) s2 x1 x2 x3
        else
          bX6_isLulled_73 fu (fun s0 x1 x2 x3 => bX6_isLulled_25 fu n s0 x1 x2 x3) σ x1 x2 x3
set_option maxHeartbeats 4000000 in
set_option maxRecDepth 20000 in
theorem vX6_isLulled_25 {K : mt_C} {fu : Nat} {r : Int32} {σf : mt_St} (hQ : mt_R K (some .boolean) (some (.int r)) σf) : ∀ (n : Nat) (σ : mt_St) (x1 : Int32) (x2 : Int32) (x3 : Int32), mt_V K cX6_isLulled RX6 4 5 σ 25 [(0, .ref (mt_adr (kG K) 56)), (1, .int x1), (2, .int x2), (3, .int x3)] [] (bX6_isLulled_25 fu n σ x1 x2 x3 = some (r, σf)) := by
  intro n
  induction n with
  | zero => intro σ x1 x2 x3; intro hP; unfold bX6_isLulled_25 at hP; cases hP
  | succ n ih =>
    intro σ x1 x2 x3
    unfold bX6_isLulled_25
    refine mv_iload_n 3 dX6_isLulled_25 rfl rfl ?_
    refine mv_bipush (v := 6) dX6_isLulled_26 bp_6 ?_
    refine mv_icmp_ge 79 dX6_isLulled_28 (by decide) ?_ ?_
    · refine mv_aload_n 0 dX6_isLulled_79 rfl rfl ?_
      refine mv_iconst (v := 0) dX6_isLulled_80 ic_0 ?_
      refine mp_X6_5 fl_X6_145 dX6_isLulled_81 (fun s1 => ?_)
      refine mv_iconst (v := 0) dX6_isLulled_84 ic_0 ?_
      refine mv_istore_n (lv' := [(0, .ref (mt_adr (kG K) 56)), (2, .int x2), (3, .int (0 : Int32))]) [1, 3, 0] dX6_isLulled_85 rfl (by decide) rfl ?_
      exact vX6_isLulled_86 hQ fu s1 x2 (0 : Int32)
    · refine mv_aload_n 0 dX6_isLulled_31 rfl rfl ?_
      refine mg_X6_0 fl_X6_9 dX6_isLulled_32 ?_
      refine mv_bipush (v := 6) dX6_isLulled_35 bp_6 ?_
      refine mv_iload_n 3 dX6_isLulled_37 rfl rfl ?_
      refine mv_iadd dX6_isLulled_38 ?_
      refine mv_iald 86 rfl rfl dX6_isLulled_39 ?_
      refine mv_bipush (v := 12) dX6_isLulled_40 bp_12 ?_
      refine mv_icmp_ge 73 dX6_isLulled_42 (by decide) ?_ ?_
      · exact vX6_isLulled_73 hQ (fun s0 x1 x2 x3 => ih s0 x1 x2 x3) σ x1 x2 x3
      · refine mv_iload_n 1 dX6_isLulled_45 rfl rfl ?_
        refine mv_aload_n 0 dX6_isLulled_46 rfl rfl ?_
        refine mg_X6_0 fl_X6_9 dX6_isLulled_47 ?_
        refine mv_bipush (v := 6) dX6_isLulled_50 bp_6 ?_
        refine mv_iload_n 3 dX6_isLulled_52 rfl rfl ?_
        refine mv_iadd dX6_isLulled_53 ?_
        refine mv_iald 86 rfl rfl dX6_isLulled_54 ?_
        refine mv_ishr dX6_isLulled_55 ?_
        refine mv_iconst (v := 1) dX6_isLulled_56 ic_1 ?_
        refine mv_iand dX6_isLulled_57 ?_
        refine mv_iconst (v := 1) dX6_isLulled_58 ic_1 ?_
        refine mv_icmp_ne 73 dX6_isLulled_59 (by decide) ?_ ?_
        · exact vX6_isLulled_73 hQ (fun s0 x1 x2 x3 => ih s0 x1 x2 x3) σ x1 x2 x3
        · refine mv_aload_n 0 dX6_isLulled_62 rfl rfl ?_
          refine mg_X6_0 fl_X6_9 dX6_isLulled_63 ?_
          refine mv_bipush (v := 6) dX6_isLulled_66 bp_6 ?_
          refine mv_iload_n 3 dX6_isLulled_68 rfl rfl ?_
          refine mv_iadd dX6_isLulled_69 ?_
          refine mv_bipush (v := 12) dX6_isLulled_70 bp_12 ?_
          refine mv_iast 86 rfl rfl dX6_isLulled_72 (fun s2 => ?_)
          exact vX6_isLulled_73 hQ (fun s0 x1 x2 x3 => ih s0 x1 x2 x3) s2 x1 x2 x3
def fX6_isLulled (fu : Nat) (σ : mt_St) (a1 : Int32) (a2 : Int32) : Option (Int32 × mt_St) :=
  mt_call (fX6_copyRow fu σ 57 59) fun _ s2 =>
  mt_bnd (mt_up s2 57 5 ((s2 57 5) &&& (a1 ^^^ (-1 : Int32)))) fun s3 =>
  bX6_isLulled_25 fu fu s3 a1 a2 (0 : Int32)
set_option maxHeartbeats 4000000 in
set_option maxRecDepth 20000 in
theorem vX6_isLulled {K : mt_C} {fu : Nat} {σ : mt_St} {a1 : Int32} {a2 : Int32} {r : Int32} {σf : mt_St} (hQ : mt_R K (some .boolean) (some (.int r)) σf) : mt_V K cX6_isLulled RX6 4 5 σ 0 [(0, .ref (mt_adr (kG K) 56)), (1, .int a1), (2, .int a2)] [] (fX6_isLulled fu σ a1 a2 = some (r, σf)) := by
  unfold fX6_isLulled
  refine mv_aload_n 0 dX6_isLulled_0 rfl rfl ?_
  refine mg_X6_0 fl_X6_9 dX6_isLulled_1 ?_
  refine mv_aload_n 0 dX6_isLulled_4 rfl rfl ?_
  refine mg_X6_2 fl_X6_16 dX6_isLulled_5 ?_
  refine mv_cSwv (As := [.ref (mt_adr (kG K) 57), .ref (mt_adr (kG K) 59)]) (st := []) cal_X6_copyRow sta_X6_copyRow ml_X6_61 rfl (by decide) rfl (Nat.le_of_ble_eq_true rfl) dX6_isLulled_8 (fun r s h => co_X6_copyRow rfl rfl rfl rfl h) (fun r1 s2 => ?_)
  refine mv_aload_n 0 dX6_isLulled_11 rfl rfl ?_
  refine mg_X6_0 fl_X6_9 dX6_isLulled_12 ?_
  refine mv_iconst (v := 5) dX6_isLulled_15 ic_5 ?_
  refine mv_dup2 dX6_isLulled_16 rfl rfl ?_
  refine mv_ialdk 86 5 rfl rfl (by decide) (by decide) dX6_isLulled_17 ?_
  refine mv_iload_n 1 dX6_isLulled_18 rfl rfl ?_
  refine mv_iconst (v := -1) dX6_isLulled_19 ic_m1 ?_
  refine mv_ixor dX6_isLulled_20 ?_
  refine mv_iand dX6_isLulled_21 ?_
  refine mv_iastk 86 5 rfl rfl (by decide) (by decide) dX6_isLulled_22 (fun s3 => ?_)
  refine mv_iconst (v := 0) dX6_isLulled_23 ic_0 ?_
  refine mv_istore_n (lv' := [(0, .ref (mt_adr (kG K) 56)), (1, .int a1), (2, .int a2), (3, .int (0 : Int32))]) [1, 2, 3, 0] dX6_isLulled_24 rfl (by decide) rfl ?_
  exact vX6_isLulled_25 hQ fu s3 a1 a2 (0 : Int32)
theorem co_X6_isLulled {l : Launch} {G : mt_G} {fu : Nat} {σ : mt_St} {a1 : Int32} {a2 : Int32} {r : Int32} {σf : mt_St}  (h : fX6_isLulled fu σ a1 a2 = some (r, σf)) : mt_Con l G yX6_isLulled cX6_isLulled 4 (some .boolean) 5 [.ref (mt_adr G 56), .int a1, .int a2] σ (some (.int r)) σf :=
  mt_con (by decide) (Nat.le_of_ble_eq_true rfl) (fun K hl hG hQ => by subst hl; subst hG; exact fun _ => vX6_isLulled  hQ h)
theorem dX6_lull_0 : decode cX6_lull 0 = .ok (.iload_n 1, 1) := by decide +kernel
theorem dX6_lull_1 : decode cX6_lull 1 = .ok (.iconst 0, 1) := by decide +kernel
theorem dX6_lull_2 : decode cX6_lull 2 = .ok (.bipush 12, 2) := by decide +kernel
theorem dX6_lull_4 : decode cX6_lull 4 = .ok (.invokestatic 70, 3) := by decide +kernel
theorem dX6_lull_7 : decode cX6_lull 7 = .ok (.ifCond .ne 10, 3) := by decide +kernel
theorem dX6_lull_10 : decode cX6_lull 10 = .ok (.aload_n 0, 1) := by decide +kernel
theorem dX6_lull_11 : decode cX6_lull 11 = .ok (.ldc 60, 2) := by decide +kernel
theorem dX6_lull_13 : decode cX6_lull 13 = .ok (.invokevirtual 66, 3) := by decide +kernel
theorem dX6_lull_16 : decode cX6_lull 16 = .ok (.ireturn, 1) := by decide +kernel
theorem dX6_lull_17 : decode cX6_lull 17 = .ok (.iconst (-1), 1) := by decide +kernel
theorem dX6_lull_18 : decode cX6_lull 18 = .ok (.istore_n 2, 1) := by decide +kernel
theorem dX6_lull_19 : decode cX6_lull 19 = .ok (.sipush 4095, 3) := by decide +kernel
theorem dX6_lull_22 : decode cX6_lull 22 = .ok (.istore_n 3, 1) := by decide +kernel
theorem dX6_lull_23 : decode cX6_lull 23 = .ok (.iload_n 3, 1) := by decide +kernel
theorem dX6_lull_24 : decode cX6_lull 24 = .ok (.ifCond .lt 39, 3) := by decide +kernel
theorem dX6_lull_27 : decode cX6_lull 27 = .ok (.iload_n 2, 1) := by decide +kernel
theorem dX6_lull_28 : decode cX6_lull 28 = .ok (.ifCond .lt 14, 3) := by decide +kernel
theorem dX6_lull_31 : decode cX6_lull 31 = .ok (.iload_n 3, 1) := by decide +kernel
theorem dX6_lull_32 : decode cX6_lull 32 = .ok (.invokestatic 102, 3) := by decide +kernel
theorem dX6_lull_35 : decode cX6_lull 35 = .ok (.iload_n 2, 1) := by decide +kernel
theorem dX6_lull_36 : decode cX6_lull 36 = .ok (.invokestatic 102, 3) := by decide +kernel
theorem dX6_lull_39 : decode cX6_lull 39 = .ok (.if_icmp .gt 16, 3) := by decide +kernel
theorem dX6_lull_42 : decode cX6_lull 42 = .ok (.aload_n 0, 1) := by decide +kernel
theorem dX6_lull_43 : decode cX6_lull 43 = .ok (.iload_n 3, 1) := by decide +kernel
theorem dX6_lull_44 : decode cX6_lull 44 = .ok (.iload_n 1, 1) := by decide +kernel
theorem dX6_lull_45 : decode cX6_lull 45 = .ok (.invokevirtual 201, 3) := by decide +kernel
theorem dX6_lull_48 : decode cX6_lull 48 = .ok (.ifCond .eq 7, 3) := by decide +kernel
theorem dX6_lull_51 : decode cX6_lull 51 = .ok (.iload_n 3, 1) := by decide +kernel
theorem dX6_lull_52 : decode cX6_lull 52 = .ok (.goto 4, 3) := by decide +kernel
theorem dX6_lull_55 : decode cX6_lull 55 = .ok (.iload_n 2, 1) := by decide +kernel
theorem dX6_lull_56 : decode cX6_lull 56 = .ok (.istore_n 2, 1) := by decide +kernel
theorem dX6_lull_57 : decode cX6_lull 57 = .ok (.iinc 3 (-1), 3) := by decide +kernel
theorem dX6_lull_60 : decode cX6_lull 60 = .ok (.goto (-37), 3) := by decide +kernel
theorem dX6_lull_63 : decode cX6_lull 63 = .ok (.aload_n 0, 1) := by decide +kernel
theorem dX6_lull_64 : decode cX6_lull 64 = .ok (.iload_n 2, 1) := by decide +kernel
theorem dX6_lull_65 : decode cX6_lull 65 = .ok (.invokevirtual 195, 3) := by decide +kernel
theorem dX6_lull_68 : decode cX6_lull 68 = .ok (.ireturn, 1) := by decide +kernel
def bX6_lull_56 (fu : Nat) (k23 : mt_St → Int32 → Int32 → Int32 → Option (Int32 × mt_St)) (σ : mt_St) (x1 : Int32) (x3 : Int32) (y0 : Int32) : Option (Int32 × mt_St) :=
  k23 σ x1 y0 (x3 + -1)
set_option maxHeartbeats 4000000 in
set_option maxRecDepth 20000 in
theorem vX6_lull_56 {K : mt_C} {fu : Nat} {r : Int32} {σf : mt_St} (hQ : mt_R K (some .int) (some (.int r)) σf) {k23 : mt_St → Int32 → Int32 → Int32 → Option (Int32 × mt_St)} (hk23 : ∀ (s0 : mt_St) (x1 : Int32) (x2 : Int32) (x3 : Int32), mt_V K cX6_lull RX6 4 6 s0 23 [(0, .ref (mt_adr (kG K) 56)), (1, .int x1), (2, .int x2), (3, .int x3)] [] (k23 s0 x1 x2 x3 = some (r, σf))) : ∀ (σ : mt_St) (x1 : Int32) (x3 : Int32) (y0 : Int32), mt_V K cX6_lull RX6 4 6 σ 56 [(0, .ref (mt_adr (kG K) 56)), (1, .int x1), (3, .int x3)] [.int y0] (bX6_lull_56 fu k23 σ x1 x3 y0 = some (r, σf)) := by
  intro σ x1 x3 y0
  unfold bX6_lull_56
  refine mv_istore_n (lv' := [(0, .ref (mt_adr (kG K) 56)), (1, .int x1), (2, .int y0), (3, .int x3)]) [1, 2, 0, 3] dX6_lull_56 rfl (by decide) rfl ?_
  refine mv_iinc (k0 := 3) (v := x3 + -1) (lv' := [(0, .ref (mt_adr (kG K) 56)), (1, .int x1), (2, .int y0), (3, .int (x3 + -1))]) [1, 2, 3, 0] dX6_lull_57 rfl (mt_inc ic_m1) (by decide) rfl ?_
  refine mv_goto 23 dX6_lull_60 (by decide) ?_
  exact hk23 σ x1 y0 (x3 + -1)
def bX6_lull_55 (fu : Nat) (k23 : mt_St → Int32 → Int32 → Int32 → Option (Int32 × mt_St)) (σ : mt_St) (x1 : Int32) (x2 : Int32) (x3 : Int32) : Option (Int32 × mt_St) :=
  bX6_lull_56 fu k23 σ x1 x3 x2
set_option maxHeartbeats 4000000 in
set_option maxRecDepth 20000 in
theorem vX6_lull_55 {K : mt_C} {fu : Nat} {r : Int32} {σf : mt_St} (hQ : mt_R K (some .int) (some (.int r)) σf) {k23 : mt_St → Int32 → Int32 → Int32 → Option (Int32 × mt_St)} (hk23 : ∀ (s0 : mt_St) (x1 : Int32) (x2 : Int32) (x3 : Int32), mt_V K cX6_lull RX6 4 6 s0 23 [(0, .ref (mt_adr (kG K) 56)), (1, .int x1), (2, .int x2), (3, .int x3)] [] (k23 s0 x1 x2 x3 = some (r, σf))) : ∀ (σ : mt_St) (x1 : Int32) (x2 : Int32) (x3 : Int32), mt_V K cX6_lull RX6 4 6 σ 55 [(0, .ref (mt_adr (kG K) 56)), (1, .int x1), (2, .int x2), (3, .int x3)] [] (bX6_lull_55 fu k23 σ x1 x2 x3 = some (r, σf)) := by
  intro σ x1 x2 x3
  unfold bX6_lull_55
  refine mv_iload_n 2 dX6_lull_55 rfl rfl ?_
  refine mv_sub (lv' := [(0, .ref (mt_adr (kG K) 56)), (1, .int x1), (3, .int x3)]) [0, 1, 3] rfl ?_
  exact vX6_lull_56 hQ hk23 σ x1 x3 x2
def bX6_lull_42 (fu : Nat) (k23 : mt_St → Int32 → Int32 → Int32 → Option (Int32 × mt_St)) (σ : mt_St) (x1 : Int32) (x2 : Int32) (x3 : Int32) : Option (Int32 × mt_St) :=
  mt_call (fX6_isLulled fu σ x3 x1) fun r1 s2 =>
  if r1 = 0 then
    bX6_lull_55 fu k23 s2 x1 x2 x3
  else
    bX6_lull_56 fu k23 s2 x1 x3 x3
set_option maxHeartbeats 4000000 in
set_option maxRecDepth 20000 in
theorem vX6_lull_42 {K : mt_C} {fu : Nat} {r : Int32} {σf : mt_St} (hQ : mt_R K (some .int) (some (.int r)) σf) {k23 : mt_St → Int32 → Int32 → Int32 → Option (Int32 × mt_St)} (hk23 : ∀ (s0 : mt_St) (x1 : Int32) (x2 : Int32) (x3 : Int32), mt_V K cX6_lull RX6 4 6 s0 23 [(0, .ref (mt_adr (kG K) 56)), (1, .int x1), (2, .int x2), (3, .int x3)] [] (k23 s0 x1 x2 x3 = some (r, σf))) : ∀ (σ : mt_St) (x1 : Int32) (x2 : Int32) (x3 : Int32), mt_V K cX6_lull RX6 4 6 σ 42 [(0, .ref (mt_adr (kG K) 56)), (1, .int x1), (2, .int x2), (3, .int x3)] [] (bX6_lull_42 fu k23 σ x1 x2 x3 = some (r, σf)) := by
  intro σ x1 x2 x3
  unfold bX6_lull_42
  refine mv_aload_n 0 dX6_lull_42 rfl rfl ?_
  refine mv_iload_n 3 dX6_lull_43 rfl rfl ?_
  refine mv_iload_n 1 dX6_lull_44 rfl rfl ?_
  refine mv_cVwi (As := [.int x3, .int x1]) (st := []) cal_X6_isLulled ins_X6_isLulled ml_X6_201 rfl (by decide) rfl rfl (by decide) rfl (Nat.le_of_ble_eq_true rfl) dX6_lull_45 (fun r s h => co_X6_isLulled h) (fun r1 s2 => ?_)
  refine mv_if_eq 55 dX6_lull_48 (by decide) ?_ ?_
  · exact vX6_lull_55 hQ hk23 s2 x1 x2 x3
  · refine mv_iload_n 3 dX6_lull_51 rfl rfl ?_
    refine mv_goto 56 dX6_lull_52 (by decide) ?_
    refine mv_sub (lv' := [(0, .ref (mt_adr (kG K) 56)), (1, .int x1), (3, .int x3)]) [0, 1, 3] rfl ?_
    exact vX6_lull_56 hQ hk23 s2 x1 x3 x3
def bX6_lull_23 (fu : Nat) : Nat → mt_St → Int32 → Int32 → Int32 → Option (Int32 × mt_St)
  | 0, _, _, _, _ => none
  | n + 1, σ, x1, x2, x3 =>
    if x3 < 0 then
      mt_call (fX6_orNone fu σ x2) fun r1 s2 =>
      some (r1, s2)
    else
      if x2 < 0 then
        bX6_lull_42 fu (fun s0 x1 x2 x3 => bX6_lull_23 fu n s0 x1 x2 x3) σ x1 x2 x3
      else
        mt_ask (fX6_bits fu x3) fun r3 =>
        mt_ask (fX6_bits fu x2) fun r4 =>
        if r4 < r3 then
          bX6_lull_55 fu (fun s0 x1 x2 x3 => bX6_lull_23 fu n s0 x1 x2 x3) σ x1 x2 x3
        else
          bX6_lull_42 fu (fun s0 x1 x2 x3 => bX6_lull_23 fu n s0 x1 x2 x3) σ x1 x2 x3
set_option maxHeartbeats 4000000 in
set_option maxRecDepth 20000 in
theorem vX6_lull_23 {K : mt_C} {fu : Nat} {r : Int32} {σf : mt_St} (hQ : mt_R K (some .int) (some (.int r)) σf) : ∀ (n : Nat) (σ : mt_St) (x1 : Int32) (x2 : Int32) (x3 : Int32), mt_V K cX6_lull RX6 4 6 σ 23 [(0, .ref (mt_adr (kG K) 56)), (1, .int x1), (2, .int x2), (3, .int x3)] [] (bX6_lull_23 fu n σ x1 x2 x3 = some (r, σf)) := by
  intro n
  induction n with
  | zero => intro σ x1 x2 x3; intro hP; unfold bX6_lull_23 at hP; cases hP
  | succ n ih =>
    intro σ x1 x2 x3
    unfold bX6_lull_23
    refine mv_iload_n 3 dX6_lull_23 rfl rfl ?_
    refine mv_if_lt 63 dX6_lull_24 (by decide) ?_ ?_
    · refine mv_aload_n 0 dX6_lull_63 rfl rfl ?_
      refine mv_iload_n 2 dX6_lull_64 rfl rfl ?_
      refine mv_cVwi (As := [.int x2]) (st := []) cal_X6_orNone ins_X6_orNone ml_X6_195 rfl (by decide) rfl rfl (by decide) rfl (Nat.le_of_ble_eq_true rfl) dX6_lull_65 (fun r s h => co_X6_orNone h) (fun r1 s2 => ?_)
      exact mv_iret hQ dX6_lull_68
    · refine mv_iload_n 2 dX6_lull_27 rfl rfl ?_
      refine mv_if_lt 42 dX6_lull_28 (by decide) ?_ ?_
      · exact vX6_lull_42 hQ (fun s0 x1 x2 x3 => ih s0 x1 x2 x3) σ x1 x2 x3
      · refine mv_iload_n 3 dX6_lull_31 rfl rfl ?_
        refine mv_cSri (As := [.int x3]) (st := []) cal_X6_bits sta_X6_bits ml_X6_102 rfl (by decide) rfl (Nat.le_of_ble_eq_true rfl) dX6_lull_32 (fun r h => co_X6_bits h) (fun r3 => ?_)
        refine mv_iload_n 2 dX6_lull_35 rfl rfl ?_
        refine mv_cSri (As := [.int x2]) (st := [.int r3]) cal_X6_bits sta_X6_bits ml_X6_102 rfl (by decide) rfl (Nat.le_of_ble_eq_true rfl) dX6_lull_36 (fun r h => co_X6_bits h) (fun r4 => ?_)
        refine mv_icmp_gt 55 dX6_lull_39 (by decide) ?_ ?_
        · exact vX6_lull_55 hQ (fun s0 x1 x2 x3 => ih s0 x1 x2 x3) σ x1 x2 x3
        · exact vX6_lull_42 hQ (fun s0 x1 x2 x3 => ih s0 x1 x2 x3) σ x1 x2 x3
def fX6_lull (fu : Nat) (σ : mt_St) (a1 : Int32) : Option (Int32 × mt_St) :=
  mt_ask (fX6_within fu a1 (0 : Int32) (12 : Int32)) fun r1 =>
  if r1 = 0 then
    mt_call (fX6_finding fu σ (-1000001 : Int32)) fun r2 s3 =>
    some (r2, s3)
  else
    bX6_lull_23 fu fu σ a1 (-1 : Int32) (4095 : Int32)
set_option maxHeartbeats 4000000 in
set_option maxRecDepth 20000 in
theorem vX6_lull {K : mt_C} {fu : Nat} {σ : mt_St} {a1 : Int32} {r : Int32} {σf : mt_St} (hQ : mt_R K (some .int) (some (.int r)) σf) : mt_V K cX6_lull RX6 4 6 σ 0 [(0, .ref (mt_adr (kG K) 56)), (1, .int a1)] [] (fX6_lull fu σ a1 = some (r, σf)) := by
  unfold fX6_lull
  refine mv_iload_n 1 dX6_lull_0 rfl rfl ?_
  refine mv_iconst (v := 0) dX6_lull_1 ic_0 ?_
  refine mv_bipush (v := 12) dX6_lull_2 bp_12 ?_
  refine mv_cSri (As := [.int a1, .int (0 : Int32), .int (12 : Int32)]) (st := []) cal_X6_within sta_X6_within ml_X6_70 rfl (by decide) rfl (Nat.le_of_ble_eq_true rfl) dX6_lull_4 (fun r h => co_X6_within h) (fun r1 => ?_)
  refine mv_if_ne 17 dX6_lull_7 (by decide) ?_ ?_
  · refine mv_iconst (v := -1) dX6_lull_17 ic_m1 ?_
    refine mv_istore_n (lv' := [(0, .ref (mt_adr (kG K) 56)), (1, .int a1), (2, .int (-1 : Int32))]) [1, 2, 0] dX6_lull_18 rfl (by decide) rfl ?_
    refine mv_sipush (v := 4095) dX6_lull_19 sp_4095 ?_
    refine mv_istore_n (lv' := [(0, .ref (mt_adr (kG K) 56)), (1, .int a1), (2, .int (-1 : Int32)), (3, .int (4095 : Int32))]) [1, 2, 3, 0] dX6_lull_22 rfl (by decide) rfl ?_
    exact vX6_lull_23 hQ fu σ a1 (-1 : Int32) (4095 : Int32)
  · refine mv_aload_n 0 dX6_lull_10 rfl rfl ?_
    refine mv_ldc kc_X6_60 dX6_lull_11 ?_
    refine mv_cVwi (As := [.int (-1000001 : Int32)]) (st := []) cal_X6_finding ins_X6_finding ml_X6_66 rfl (by decide) rfl rfl (by decide) rfl (Nat.le_of_ble_eq_true rfl) dX6_lull_13 (fun r s h => co_X6_finding h) (fun r2 s3 => ?_)
    exact mv_iret hQ dX6_lull_16
theorem co_X6_lull {l : Launch} {G : mt_G} {fu : Nat} {σ : mt_St} {a1 : Int32} {r : Int32} {σf : mt_St}  (h : fX6_lull fu σ a1 = some (r, σf)) : mt_Con l G yX6_lull cX6_lull 4 (some .int) 6 [.ref (mt_adr G 56), .int a1] σ (some (.int r)) σf :=
  mt_con (by decide) (Nat.le_of_ble_eq_true rfl) (fun K hl hG hQ => by subst hl; subst hG; exact fun _ => vX6_lull  hQ h)
theorem dX6_goldTorn_0 : decode cX6_goldTorn 0 = .ok (.aload_n 0, 1) := by decide +kernel
theorem dX6_goldTorn_1 : decode cX6_goldTorn 1 = .ok (.getfield 9, 3) := by decide +kernel
theorem dX6_goldTorn_4 : decode cX6_goldTorn 4 = .ok (.aload_n 0, 1) := by decide +kernel
theorem dX6_goldTorn_5 : decode cX6_goldTorn 5 = .ok (.getfield 16, 3) := by decide +kernel
theorem dX6_goldTorn_8 : decode cX6_goldTorn 8 = .ok (.invokestatic 61, 3) := by decide +kernel
theorem dX6_goldTorn_11 : decode cX6_goldTorn 11 = .ok (.iconst 0, 1) := by decide +kernel
theorem dX6_goldTorn_12 : decode cX6_goldTorn 12 = .ok (.istore_n 3, 1) := by decide +kernel
theorem dX6_goldTorn_13 : decode cX6_goldTorn 13 = .ok (.iload_n 3, 1) := by decide +kernel
theorem dX6_goldTorn_14 : decode cX6_goldTorn 14 = .ok (.aload_n 0, 1) := by decide +kernel
theorem dX6_goldTorn_15 : decode cX6_goldTorn 15 = .ok (.getfield 9, 3) := by decide +kernel
theorem dX6_goldTorn_18 : decode cX6_goldTorn 18 = .ok (.iconst 1, 1) := by decide +kernel
theorem dX6_goldTorn_19 : decode cX6_goldTorn 19 = .ok (.iaload, 1) := by decide +kernel
theorem dX6_goldTorn_20 : decode cX6_goldTorn 20 = .ok (.if_icmp .ge 41, 3) := by decide +kernel
theorem dX6_goldTorn_23 : decode cX6_goldTorn 23 = .ok (.iload_n 1, 1) := by decide +kernel
theorem dX6_goldTorn_24 : decode cX6_goldTorn 24 = .ok (.iload_n 3, 1) := by decide +kernel
theorem dX6_goldTorn_25 : decode cX6_goldTorn 25 = .ok (.ishr, 1) := by decide +kernel
theorem dX6_goldTorn_26 : decode cX6_goldTorn 26 = .ok (.iconst 1, 1) := by decide +kernel
theorem dX6_goldTorn_27 : decode cX6_goldTorn 27 = .ok (.iand, 1) := by decide +kernel
theorem dX6_goldTorn_28 : decode cX6_goldTorn 28 = .ok (.iconst 1, 1) := by decide +kernel
theorem dX6_goldTorn_29 : decode cX6_goldTorn 29 = .ok (.if_icmp .ne 26, 3) := by decide +kernel
theorem dX6_goldTorn_32 : decode cX6_goldTorn 32 = .ok (.aload_n 0, 1) := by decide +kernel
theorem dX6_goldTorn_33 : decode cX6_goldTorn 33 = .ok (.getfield 9, 3) := by decide +kernel
theorem dX6_goldTorn_36 : decode cX6_goldTorn 36 = .ok (.iload_n 3, 1) := by decide +kernel
theorem dX6_goldTorn_37 : decode cX6_goldTorn 37 = .ok (.iconst 4, 1) := by decide +kernel
theorem dX6_goldTorn_38 : decode cX6_goldTorn 38 = .ok (.invokestatic 85, 3) := by decide +kernel
theorem dX6_goldTorn_41 : decode cX6_goldTorn 41 = .ok (.iconst 0, 1) := by decide +kernel
theorem dX6_goldTorn_42 : decode cX6_goldTorn 42 = .ok (.iastore, 1) := by decide +kernel
theorem dX6_goldTorn_43 : decode cX6_goldTorn 43 = .ok (.aload_n 0, 1) := by decide +kernel
theorem dX6_goldTorn_44 : decode cX6_goldTorn 44 = .ok (.getfield 9, 3) := by decide +kernel
theorem dX6_goldTorn_47 : decode cX6_goldTorn 47 = .ok (.iload_n 3, 1) := by decide +kernel
theorem dX6_goldTorn_48 : decode cX6_goldTorn 48 = .ok (.bipush 6, 2) := by decide +kernel
theorem dX6_goldTorn_50 : decode cX6_goldTorn 50 = .ok (.invokestatic 85, 3) := by decide +kernel
theorem dX6_goldTorn_53 : decode cX6_goldTorn 53 = .ok (.iconst 0, 1) := by decide +kernel
theorem dX6_goldTorn_54 : decode cX6_goldTorn 54 = .ok (.iastore, 1) := by decide +kernel
theorem dX6_goldTorn_55 : decode cX6_goldTorn 55 = .ok (.iinc 3 1, 3) := by decide +kernel
theorem dX6_goldTorn_58 : decode cX6_goldTorn 58 = .ok (.goto (-45), 3) := by decide +kernel
theorem dX6_goldTorn_61 : decode cX6_goldTorn 61 = .ok (.aload_n 0, 1) := by decide +kernel
theorem dX6_goldTorn_62 : decode cX6_goldTorn 62 = .ok (.iload_n 2, 1) := by decide +kernel
theorem dX6_goldTorn_63 : decode cX6_goldTorn 63 = .ok (.invokevirtual 164, 3) := by decide +kernel
theorem dX6_goldTorn_66 : decode cX6_goldTorn 66 = .ok (.aload_n 0, 1) := by decide +kernel
theorem dX6_goldTorn_67 : decode cX6_goldTorn 67 = .ok (.aload_n 0, 1) := by decide +kernel
theorem dX6_goldTorn_68 : decode cX6_goldTorn 68 = .ok (.getfield 9, 3) := by decide +kernel
theorem dX6_goldTorn_71 : decode cX6_goldTorn 71 = .ok (.iconst 3, 1) := by decide +kernel
theorem dX6_goldTorn_72 : decode cX6_goldTorn 72 = .ok (.iaload, 1) := by decide +kernel
theorem dX6_goldTorn_73 : decode cX6_goldTorn 73 = .ok (.invokevirtual 186, 3) := by decide +kernel
theorem dX6_goldTorn_76 : decode cX6_goldTorn 76 = .ok (.ireturn, 1) := by decide +kernel
def bX6_goldTorn_55 (fu : Nat) (k13 : mt_St → Int32 → Int32 → Int32 → Option (Int32 × mt_St)) (σ : mt_St) (x1 : Int32) (x2 : Int32) (x3 : Int32) : Option (Int32 × mt_St) :=
  k13 σ x1 x2 (x3 + 1)
set_option maxHeartbeats 4000000 in
set_option maxRecDepth 20000 in
theorem vX6_goldTorn_55 {K : mt_C} {fu : Nat} {r : Int32} {σf : mt_St} (hQ : mt_R K (some .int) (some (.int r)) σf) {k13 : mt_St → Int32 → Int32 → Int32 → Option (Int32 × mt_St)} (hk13 : ∀ (s0 : mt_St) (x1 : Int32) (x2 : Int32) (x3 : Int32), mt_V K cX6_goldTorn RX6 4 6 s0 13 [(0, .ref (mt_adr (kG K) 56)), (1, .int x1), (2, .int x2), (3, .int x3)] [] (k13 s0 x1 x2 x3 = some (r, σf))) : ∀ (σ : mt_St) (x1 : Int32) (x2 : Int32) (x3 : Int32), mt_V K cX6_goldTorn RX6 4 6 σ 55 [(0, .ref (mt_adr (kG K) 56)), (1, .int x1), (2, .int x2), (3, .int x3)] [] (bX6_goldTorn_55 fu k13 σ x1 x2 x3 = some (r, σf)) := by
  intro σ x1 x2 x3
  unfold bX6_goldTorn_55
  refine mv_iinc (k0 := 3) (v := x3 + 1) (lv' := [(0, .ref (mt_adr (kG K) 56)), (1, .int x1), (2, .int x2), (3, .int (x3 + 1))]) [1, 2, 3, 0] dX6_goldTorn_55 rfl (mt_inc ic_1) (by decide) rfl ?_
  refine mv_goto 13 dX6_goldTorn_58 (by decide) ?_
  exact hk13 σ x1 x2 (x3 + 1)
def bX6_goldTorn_13 (fu : Nat) : Nat → mt_St → Int32 → Int32 → Int32 → Option (Int32 × mt_St)
  | 0, _, _, _, _ => none
  | n + 1, σ, x1, x2, x3 =>
    if (σ 57 1) ≤ x3 then
      mt_call (fX6_yearsGo fu σ x2) fun _ s2 =>
      mt_call (fX6_putBack fu s2 (s2 57 3)) fun r3 s4 =>
      some (r3, s4)
    else
      if ((x1 >>> (x3 &&& 31)) &&& (1 : Int32)) = (1 : Int32) then
        mt_ask (fX6_treatyAt fu x3 (4 : Int32)) fun r5 =>
        mt_chk (mt_in r5 86) <|
        mt_bnd (mt_up σ 57 (Int32.toNatClampNeg r5) (0 : Int32)) fun s6 =>
        mt_ask (fX6_treatyAt fu x3 (6 : Int32)) fun r7 =>
        mt_chk (mt_in r7 86) <|
        mt_bnd (mt_up s6 57 (Int32.toNatClampNeg r7) (0 : Int32)) fun s8 =>
        bX6_goldTorn_55 fu (fun s0 x1 x2 x3 => bX6_goldTorn_13 fu n s0 x1 x2 x3) s8 x1 x2 x3
      else
        bX6_goldTorn_55 fu (fun s0 x1 x2 x3 => bX6_goldTorn_13 fu n s0 x1 x2 x3) σ x1 x2 x3
set_option maxHeartbeats 4000000 in
set_option maxRecDepth 20000 in
theorem vX6_goldTorn_13 {K : mt_C} {fu : Nat} {r : Int32} {σf : mt_St} (hQ : mt_R K (some .int) (some (.int r)) σf) : ∀ (n : Nat) (σ : mt_St) (x1 : Int32) (x2 : Int32) (x3 : Int32), mt_V K cX6_goldTorn RX6 4 6 σ 13 [(0, .ref (mt_adr (kG K) 56)), (1, .int x1), (2, .int x2), (3, .int x3)] [] (bX6_goldTorn_13 fu n σ x1 x2 x3 = some (r, σf)) := by
  intro n
  induction n with
  | zero => intro σ x1 x2 x3; intro hP; unfold bX6_goldTorn_13 at hP; cases hP
  | succ n ih =>
    intro σ x1 x2 x3
    unfold bX6_goldTorn_13
    refine mv_iload_n 3 dX6_goldTorn_13 rfl rfl ?_
    refine mv_aload_n 0 dX6_goldTorn_14 rfl rfl ?_
    refine mg_X6_0 fl_X6_9 dX6_goldTorn_15 ?_
    refine mv_iconst (v := 1) dX6_goldTorn_18 ic_1 ?_
    refine mv_ialdk 86 1 rfl rfl (by decide) (by decide) dX6_goldTorn_19 ?_
    refine mv_icmp_ge 61 dX6_goldTorn_20 (by decide) ?_ ?_
    · refine mv_aload_n 0 dX6_goldTorn_61 rfl rfl ?_
      refine mv_iload_n 2 dX6_goldTorn_62 rfl rfl ?_
      refine mv_cVwv (As := [.int x2]) (st := []) cal_X6_yearsGo ins_X6_yearsGo ml_X6_164 rfl (by decide) rfl rfl (by decide) rfl (Nat.le_of_ble_eq_true rfl) dX6_goldTorn_63 (fun r s h => co_X6_yearsGo h) (fun r1 s2 => ?_)
      refine mv_aload_n 0 dX6_goldTorn_66 rfl rfl ?_
      refine mv_aload_n 0 dX6_goldTorn_67 rfl rfl ?_
      refine mg_X6_0 fl_X6_9 dX6_goldTorn_68 ?_
      refine mv_iconst (v := 3) dX6_goldTorn_71 ic_3 ?_
      refine mv_ialdk 86 3 rfl rfl (by decide) (by decide) dX6_goldTorn_72 ?_
      refine mv_cVwi (As := [.int (s2 57 3)]) (st := []) cal_X6_putBack ins_X6_putBack ml_X6_186 rfl (by decide) rfl rfl (by decide) rfl (Nat.le_of_ble_eq_true rfl) dX6_goldTorn_73 (fun r s h => co_X6_putBack h) (fun r3 s4 => ?_)
      exact mv_iret hQ dX6_goldTorn_76
    · refine mv_iload_n 1 dX6_goldTorn_23 rfl rfl ?_
      refine mv_iload_n 3 dX6_goldTorn_24 rfl rfl ?_
      refine mv_ishr dX6_goldTorn_25 ?_
      refine mv_iconst (v := 1) dX6_goldTorn_26 ic_1 ?_
      refine mv_iand dX6_goldTorn_27 ?_
      refine mv_iconst (v := 1) dX6_goldTorn_28 ic_1 ?_
      refine mv_icmp_ne 55 dX6_goldTorn_29 (by decide) ?_ ?_
      · exact vX6_goldTorn_55 hQ (fun s0 x1 x2 x3 => ih s0 x1 x2 x3) σ x1 x2 x3
      · refine mv_aload_n 0 dX6_goldTorn_32 rfl rfl ?_
        refine mg_X6_0 fl_X6_9 dX6_goldTorn_33 ?_
        refine mv_iload_n 3 dX6_goldTorn_36 rfl rfl ?_
        refine mv_iconst (v := 4) dX6_goldTorn_37 ic_4 ?_
        refine mv_cSri (As := [.int x3, .int (4 : Int32)]) (st := [.ref (mt_adr (kG K) 57)]) cal_X6_treatyAt sta_X6_treatyAt ml_X6_85 rfl (by decide) rfl (Nat.le_of_ble_eq_true rfl) dX6_goldTorn_38 (fun r h => co_X6_treatyAt h) (fun r5 => ?_)
        refine mv_iconst (v := 0) dX6_goldTorn_41 ic_0 ?_
        refine mv_iast 86 rfl rfl dX6_goldTorn_42 (fun s6 => ?_)
        refine mv_aload_n 0 dX6_goldTorn_43 rfl rfl ?_
        refine mg_X6_0 fl_X6_9 dX6_goldTorn_44 ?_
        refine mv_iload_n 3 dX6_goldTorn_47 rfl rfl ?_
        refine mv_bipush (v := 6) dX6_goldTorn_48 bp_6 ?_
        refine mv_cSri (As := [.int x3, .int (6 : Int32)]) (st := [.ref (mt_adr (kG K) 57)]) cal_X6_treatyAt sta_X6_treatyAt ml_X6_85 rfl (by decide) rfl (Nat.le_of_ble_eq_true rfl) dX6_goldTorn_50 (fun r h => co_X6_treatyAt h) (fun r7 => ?_)
        refine mv_iconst (v := 0) dX6_goldTorn_53 ic_0 ?_
        refine mv_iast 86 rfl rfl dX6_goldTorn_54 (fun s8 => ?_)
        exact vX6_goldTorn_55 hQ (fun s0 x1 x2 x3 => ih s0 x1 x2 x3) s8 x1 x2 x3
def fX6_goldTorn (fu : Nat) (σ : mt_St) (a1 : Int32) (a2 : Int32) : Option (Int32 × mt_St) :=
  mt_call (fX6_copyRow fu σ 57 59) fun _ s2 =>
  bX6_goldTorn_13 fu fu s2 a1 a2 (0 : Int32)
set_option maxHeartbeats 4000000 in
set_option maxRecDepth 20000 in
theorem vX6_goldTorn {K : mt_C} {fu : Nat} {σ : mt_St} {a1 : Int32} {a2 : Int32} {r : Int32} {σf : mt_St} (hQ : mt_R K (some .int) (some (.int r)) σf) : mt_V K cX6_goldTorn RX6 4 6 σ 0 [(0, .ref (mt_adr (kG K) 56)), (1, .int a1), (2, .int a2)] [] (fX6_goldTorn fu σ a1 a2 = some (r, σf)) := by
  unfold fX6_goldTorn
  refine mv_aload_n 0 dX6_goldTorn_0 rfl rfl ?_
  refine mg_X6_0 fl_X6_9 dX6_goldTorn_1 ?_
  refine mv_aload_n 0 dX6_goldTorn_4 rfl rfl ?_
  refine mg_X6_2 fl_X6_16 dX6_goldTorn_5 ?_
  refine mv_cSwv (As := [.ref (mt_adr (kG K) 57), .ref (mt_adr (kG K) 59)]) (st := []) cal_X6_copyRow sta_X6_copyRow ml_X6_61 rfl (by decide) rfl (Nat.le_of_ble_eq_true rfl) dX6_goldTorn_8 (fun r s h => co_X6_copyRow rfl rfl rfl rfl h) (fun r1 s2 => ?_)
  refine mv_iconst (v := 0) dX6_goldTorn_11 ic_0 ?_
  refine mv_istore_n (lv' := [(0, .ref (mt_adr (kG K) 56)), (1, .int a1), (2, .int a2), (3, .int (0 : Int32))]) [1, 2, 3, 0] dX6_goldTorn_12 rfl (by decide) rfl ?_
  exact vX6_goldTorn_13 hQ fu s2 a1 a2 (0 : Int32)
theorem co_X6_goldTorn {l : Launch} {G : mt_G} {fu : Nat} {σ : mt_St} {a1 : Int32} {a2 : Int32} {r : Int32} {σf : mt_St}  (h : fX6_goldTorn fu σ a1 a2 = some (r, σf)) : mt_Con l G yX6_goldTorn cX6_goldTorn 4 (some .int) 6 [.ref (mt_adr G 56), .int a1, .int a2] σ (some (.int r)) σf :=
  mt_con (by decide) (Nat.le_of_ble_eq_true rfl) (fun K hl hG hQ => by subst hl; subst hG; exact fun _ => vX6_goldTorn  hQ h)
theorem dX6_tear_0 : decode cX6_tear 0 = .ok (.iload_n 1, 1) := by decide +kernel
theorem dX6_tear_1 : decode cX6_tear 1 = .ok (.iconst 0, 1) := by decide +kernel
theorem dX6_tear_2 : decode cX6_tear 2 = .ok (.ldc 149, 2) := by decide +kernel
theorem dX6_tear_4 : decode cX6_tear 4 = .ok (.invokestatic 70, 3) := by decide +kernel
theorem dX6_tear_7 : decode cX6_tear 7 = .ok (.ifCond .eq 13, 3) := by decide +kernel
theorem dX6_tear_10 : decode cX6_tear 10 = .ok (.iload_n 2, 1) := by decide +kernel
theorem dX6_tear_11 : decode cX6_tear 11 = .ok (.iconst 0, 1) := by decide +kernel
theorem dX6_tear_12 : decode cX6_tear 12 = .ok (.bipush 20, 2) := by decide +kernel
theorem dX6_tear_14 : decode cX6_tear 14 = .ok (.invokestatic 70, 3) := by decide +kernel
theorem dX6_tear_17 : decode cX6_tear 17 = .ok (.ifCond .ne 10, 3) := by decide +kernel
theorem dX6_tear_20 : decode cX6_tear 20 = .ok (.aload_n 0, 1) := by decide +kernel
theorem dX6_tear_21 : decode cX6_tear 21 = .ok (.ldc 60, 2) := by decide +kernel
theorem dX6_tear_23 : decode cX6_tear 23 = .ok (.invokevirtual 66, 3) := by decide +kernel
theorem dX6_tear_26 : decode cX6_tear 26 = .ok (.ireturn, 1) := by decide +kernel
theorem dX6_tear_27 : decode cX6_tear 27 = .ok (.iconst (-1), 1) := by decide +kernel
theorem dX6_tear_28 : decode cX6_tear 28 = .ok (.istore_n 3, 1) := by decide +kernel
theorem dX6_tear_29 : decode cX6_tear 29 = .ok (.iconst 1, 1) := by decide +kernel
theorem dX6_tear_30 : decode cX6_tear 30 = .ok (.aload_n 0, 1) := by decide +kernel
theorem dX6_tear_31 : decode cX6_tear 31 = .ok (.getfield 9, 3) := by decide +kernel
theorem dX6_tear_34 : decode cX6_tear 34 = .ok (.iconst 1, 1) := by decide +kernel
theorem dX6_tear_35 : decode cX6_tear 35 = .ok (.iaload, 1) := by decide +kernel
theorem dX6_tear_36 : decode cX6_tear 36 = .ok (.ishl, 1) := by decide +kernel
theorem dX6_tear_37 : decode cX6_tear 37 = .ok (.iconst 1, 1) := by decide +kernel
theorem dX6_tear_38 : decode cX6_tear 38 = .ok (.isub, 1) := by decide +kernel
theorem dX6_tear_39 : decode cX6_tear 39 = .ok (.istore 4, 2) := by decide +kernel
theorem dX6_tear_41 : decode cX6_tear 41 = .ok (.iload 4, 2) := by decide +kernel
theorem dX6_tear_43 : decode cX6_tear 43 = .ok (.ifCond .lt 43, 3) := by decide +kernel
theorem dX6_tear_46 : decode cX6_tear 46 = .ok (.iload_n 3, 1) := by decide +kernel
theorem dX6_tear_47 : decode cX6_tear 47 = .ok (.ifCond .lt 15, 3) := by decide +kernel
theorem dX6_tear_50 : decode cX6_tear 50 = .ok (.iload 4, 2) := by decide +kernel
theorem dX6_tear_52 : decode cX6_tear 52 = .ok (.invokestatic 102, 3) := by decide +kernel
theorem dX6_tear_55 : decode cX6_tear 55 = .ok (.iload_n 3, 1) := by decide +kernel
theorem dX6_tear_56 : decode cX6_tear 56 = .ok (.invokestatic 102, 3) := by decide +kernel
theorem dX6_tear_59 : decode cX6_tear 59 = .ok (.if_icmp .gt 19, 3) := by decide +kernel
theorem dX6_tear_62 : decode cX6_tear 62 = .ok (.aload_n 0, 1) := by decide +kernel
theorem dX6_tear_63 : decode cX6_tear 63 = .ok (.iload 4, 2) := by decide +kernel
theorem dX6_tear_65 : decode cX6_tear 65 = .ok (.iload_n 2, 1) := by decide +kernel
theorem dX6_tear_66 : decode cX6_tear 66 = .ok (.invokevirtual 204, 3) := by decide +kernel
theorem dX6_tear_69 : decode cX6_tear 69 = .ok (.iload_n 1, 1) := by decide +kernel
theorem dX6_tear_70 : decode cX6_tear 70 = .ok (.if_icmp .gt 8, 3) := by decide +kernel
theorem dX6_tear_73 : decode cX6_tear 73 = .ok (.iload 4, 2) := by decide +kernel
theorem dX6_tear_75 : decode cX6_tear 75 = .ok (.goto 4, 3) := by decide +kernel
theorem dX6_tear_78 : decode cX6_tear 78 = .ok (.iload_n 3, 1) := by decide +kernel
theorem dX6_tear_79 : decode cX6_tear 79 = .ok (.istore_n 3, 1) := by decide +kernel
theorem dX6_tear_80 : decode cX6_tear 80 = .ok (.iinc 4 (-1), 3) := by decide +kernel
theorem dX6_tear_83 : decode cX6_tear 83 = .ok (.goto (-42), 3) := by decide +kernel
theorem dX6_tear_86 : decode cX6_tear 86 = .ok (.aload_n 0, 1) := by decide +kernel
theorem dX6_tear_87 : decode cX6_tear 87 = .ok (.iload_n 3, 1) := by decide +kernel
theorem dX6_tear_88 : decode cX6_tear 88 = .ok (.invokevirtual 195, 3) := by decide +kernel
theorem dX6_tear_91 : decode cX6_tear 91 = .ok (.ireturn, 1) := by decide +kernel
def bX6_tear_79 (fu : Nat) (k41 : mt_St → Int32 → Int32 → Int32 → Int32 → Option (Int32 × mt_St)) (σ : mt_St) (x1 : Int32) (x2 : Int32) (x4 : Int32) (y0 : Int32) : Option (Int32 × mt_St) :=
  k41 σ x1 x2 y0 (x4 + -1)
set_option maxHeartbeats 4000000 in
set_option maxRecDepth 20000 in
theorem vX6_tear_79 {K : mt_C} {fu : Nat} {r : Int32} {σf : mt_St} (hQ : mt_R K (some .int) (some (.int r)) σf) {k41 : mt_St → Int32 → Int32 → Int32 → Int32 → Option (Int32 × mt_St)} (hk41 : ∀ (s0 : mt_St) (x1 : Int32) (x2 : Int32) (x3 : Int32) (x4 : Int32), mt_V K cX6_tear RX6 5 7 s0 41 [(0, .ref (mt_adr (kG K) 56)), (1, .int x1), (2, .int x2), (3, .int x3), (4, .int x4)] [] (k41 s0 x1 x2 x3 x4 = some (r, σf))) : ∀ (σ : mt_St) (x1 : Int32) (x2 : Int32) (x4 : Int32) (y0 : Int32), mt_V K cX6_tear RX6 5 7 σ 79 [(0, .ref (mt_adr (kG K) 56)), (1, .int x1), (2, .int x2), (4, .int x4)] [.int y0] (bX6_tear_79 fu k41 σ x1 x2 x4 y0 = some (r, σf)) := by
  intro σ x1 x2 x4 y0
  unfold bX6_tear_79
  refine mv_istore_n (lv' := [(0, .ref (mt_adr (kG K) 56)), (1, .int x1), (2, .int x2), (3, .int y0), (4, .int x4)]) [1, 2, 3, 0, 4] dX6_tear_79 rfl (by decide) rfl ?_
  refine mv_iinc (k0 := 4) (v := x4 + -1) (lv' := [(0, .ref (mt_adr (kG K) 56)), (1, .int x1), (2, .int x2), (3, .int y0), (4, .int (x4 + -1))]) [1, 2, 3, 4, 0] dX6_tear_80 rfl (mt_inc ic_m1) (by decide) rfl ?_
  refine mv_goto 41 dX6_tear_83 (by decide) ?_
  exact hk41 σ x1 x2 y0 (x4 + -1)
def bX6_tear_78 (fu : Nat) (k41 : mt_St → Int32 → Int32 → Int32 → Int32 → Option (Int32 × mt_St)) (σ : mt_St) (x1 : Int32) (x2 : Int32) (x3 : Int32) (x4 : Int32) : Option (Int32 × mt_St) :=
  bX6_tear_79 fu k41 σ x1 x2 x4 x3
set_option maxHeartbeats 4000000 in
set_option maxRecDepth 20000 in
theorem vX6_tear_78 {K : mt_C} {fu : Nat} {r : Int32} {σf : mt_St} (hQ : mt_R K (some .int) (some (.int r)) σf) {k41 : mt_St → Int32 → Int32 → Int32 → Int32 → Option (Int32 × mt_St)} (hk41 : ∀ (s0 : mt_St) (x1 : Int32) (x2 : Int32) (x3 : Int32) (x4 : Int32), mt_V K cX6_tear RX6 5 7 s0 41 [(0, .ref (mt_adr (kG K) 56)), (1, .int x1), (2, .int x2), (3, .int x3), (4, .int x4)] [] (k41 s0 x1 x2 x3 x4 = some (r, σf))) : ∀ (σ : mt_St) (x1 : Int32) (x2 : Int32) (x3 : Int32) (x4 : Int32), mt_V K cX6_tear RX6 5 7 σ 78 [(0, .ref (mt_adr (kG K) 56)), (1, .int x1), (2, .int x2), (3, .int x3), (4, .int x4)] [] (bX6_tear_78 fu k41 σ x1 x2 x3 x4 = some (r, σf)) := by
  intro σ x1 x2 x3 x4
  unfold bX6_tear_78
  refine mv_iload_n 3 dX6_tear_78 rfl rfl ?_
  refine mv_sub (lv' := [(0, .ref (mt_adr (kG K) 56)), (1, .int x1), (2, .int x2), (4, .int x4)]) [0, 1, 2, 4] rfl ?_
  exact vX6_tear_79 hQ hk41 σ x1 x2 x4 x3
def bX6_tear_62 (fu : Nat) (k41 : mt_St → Int32 → Int32 → Int32 → Int32 → Option (Int32 × mt_St)) (σ : mt_St) (x1 : Int32) (x2 : Int32) (x3 : Int32) (x4 : Int32) : Option (Int32 × mt_St) :=
  mt_call (fX6_goldTorn fu σ x4 x2) fun r1 s2 =>
  if x1 < r1 then
    bX6_tear_78 fu k41 s2 x1 x2 x3 x4
  else
    bX6_tear_79 fu k41 s2 x1 x2 x4 x4
set_option maxHeartbeats 4000000 in
set_option maxRecDepth 20000 in
theorem vX6_tear_62 {K : mt_C} {fu : Nat} {r : Int32} {σf : mt_St} (hQ : mt_R K (some .int) (some (.int r)) σf) {k41 : mt_St → Int32 → Int32 → Int32 → Int32 → Option (Int32 × mt_St)} (hk41 : ∀ (s0 : mt_St) (x1 : Int32) (x2 : Int32) (x3 : Int32) (x4 : Int32), mt_V K cX6_tear RX6 5 7 s0 41 [(0, .ref (mt_adr (kG K) 56)), (1, .int x1), (2, .int x2), (3, .int x3), (4, .int x4)] [] (k41 s0 x1 x2 x3 x4 = some (r, σf))) : ∀ (σ : mt_St) (x1 : Int32) (x2 : Int32) (x3 : Int32) (x4 : Int32), mt_V K cX6_tear RX6 5 7 σ 62 [(0, .ref (mt_adr (kG K) 56)), (1, .int x1), (2, .int x2), (3, .int x3), (4, .int x4)] [] (bX6_tear_62 fu k41 σ x1 x2 x3 x4 = some (r, σf)) := by
  intro σ x1 x2 x3 x4
  unfold bX6_tear_62
  refine mv_aload_n 0 dX6_tear_62 rfl rfl ?_
  refine mv_iload 4 dX6_tear_63 rfl ?_
  refine mv_iload_n 2 dX6_tear_65 rfl rfl ?_
  refine mv_cVwi (As := [.int x4, .int x2]) (st := []) cal_X6_goldTorn ins_X6_goldTorn ml_X6_204 rfl (by decide) rfl rfl (by decide) rfl (Nat.le_of_ble_eq_true rfl) dX6_tear_66 (fun r s h => co_X6_goldTorn h) (fun r1 s2 => ?_)
  refine mv_iload_n 1 dX6_tear_69 rfl rfl ?_
  refine mv_icmp_gt 78 dX6_tear_70 (by decide) ?_ ?_
  · exact vX6_tear_78 hQ hk41 s2 x1 x2 x3 x4
  · refine mv_iload 4 dX6_tear_73 rfl ?_
    refine mv_goto 79 dX6_tear_75 (by decide) ?_
    refine mv_sub (lv' := [(0, .ref (mt_adr (kG K) 56)), (1, .int x1), (2, .int x2), (4, .int x4)]) [0, 1, 2, 4] rfl ?_
    exact vX6_tear_79 hQ hk41 s2 x1 x2 x4 x4
def bX6_tear_41 (fu : Nat) : Nat → mt_St → Int32 → Int32 → Int32 → Int32 → Option (Int32 × mt_St)
  | 0, _, _, _, _, _ => none
  | n + 1, σ, x1, x2, x3, x4 =>
    if x4 < 0 then
      mt_call (fX6_orNone fu σ x3) fun r1 s2 =>
      some (r1, s2)
    else
      if x3 < 0 then
        bX6_tear_62 fu (fun s0 x1 x2 x3 x4 => bX6_tear_41 fu n s0 x1 x2 x3 x4) σ x1 x2 x3 x4
      else
        mt_ask (fX6_bits fu x4) fun r3 =>
        mt_ask (fX6_bits fu x3) fun r4 =>
        if r4 < r3 then
          bX6_tear_78 fu (fun s0 x1 x2 x3 x4 => bX6_tear_41 fu n s0 x1 x2 x3 x4) σ x1 x2 x3 x4
        else
          bX6_tear_62 fu (fun s0 x1 x2 x3 x4 => bX6_tear_41 fu n s0 x1 x2 x3 x4) σ x1 x2 x3 x4
set_option maxHeartbeats 4000000 in
set_option maxRecDepth 20000 in
theorem vX6_tear_41 {K : mt_C} {fu : Nat} {r : Int32} {σf : mt_St} (hQ : mt_R K (some .int) (some (.int r)) σf) : ∀ (n : Nat) (σ : mt_St) (x1 : Int32) (x2 : Int32) (x3 : Int32) (x4 : Int32), mt_V K cX6_tear RX6 5 7 σ 41 [(0, .ref (mt_adr (kG K) 56)), (1, .int x1), (2, .int x2), (3, .int x3), (4, .int x4)] [] (bX6_tear_41 fu n σ x1 x2 x3 x4 = some (r, σf)) := by
  intro n
  induction n with
  | zero => intro σ x1 x2 x3 x4; intro hP; unfold bX6_tear_41 at hP; cases hP
  | succ n ih =>
    intro σ x1 x2 x3 x4
    unfold bX6_tear_41
    refine mv_iload 4 dX6_tear_41 rfl ?_
    refine mv_if_lt 86 dX6_tear_43 (by decide) ?_ ?_
    · refine mv_aload_n 0 dX6_tear_86 rfl rfl ?_
      refine mv_iload_n 3 dX6_tear_87 rfl rfl ?_
      refine mv_cVwi (As := [.int x3]) (st := []) cal_X6_orNone ins_X6_orNone ml_X6_195 rfl (by decide) rfl rfl (by decide) rfl (Nat.le_of_ble_eq_true rfl) dX6_tear_88 (fun r s h => co_X6_orNone h) (fun r1 s2 => ?_)
      exact mv_iret hQ dX6_tear_91
    · refine mv_iload_n 3 dX6_tear_46 rfl rfl ?_
      refine mv_if_lt 62 dX6_tear_47 (by decide) ?_ ?_
      · exact vX6_tear_62 hQ (fun s0 x1 x2 x3 x4 => ih s0 x1 x2 x3 x4) σ x1 x2 x3 x4
      · refine mv_iload 4 dX6_tear_50 rfl ?_
        refine mv_cSri (As := [.int x4]) (st := []) cal_X6_bits sta_X6_bits ml_X6_102 rfl (by decide) rfl (Nat.le_of_ble_eq_true rfl) dX6_tear_52 (fun r h => co_X6_bits h) (fun r3 => ?_)
        refine mv_iload_n 3 dX6_tear_55 rfl rfl ?_
        refine mv_cSri (As := [.int x3]) (st := [.int r3]) cal_X6_bits sta_X6_bits ml_X6_102 rfl (by decide) rfl (Nat.le_of_ble_eq_true rfl) dX6_tear_56 (fun r h => co_X6_bits h) (fun r4 => ?_)
        refine mv_icmp_gt 78 dX6_tear_59 (by decide) ?_ ?_
        · exact vX6_tear_78 hQ (fun s0 x1 x2 x3 x4 => ih s0 x1 x2 x3 x4) σ x1 x2 x3 x4
        · exact vX6_tear_62 hQ (fun s0 x1 x2 x3 x4 => ih s0 x1 x2 x3 x4) σ x1 x2 x3 x4
def bX6_tear_20 (fu : Nat) (σ : mt_St) : Option (Int32 × mt_St) :=
  mt_call (fX6_finding fu σ (-1000001 : Int32)) fun r1 s2 =>
  some (r1, s2)
set_option maxHeartbeats 4000000 in
set_option maxRecDepth 20000 in
theorem vX6_tear_20 {K : mt_C} {fu : Nat} {r : Int32} {σf : mt_St} (hQ : mt_R K (some .int) (some (.int r)) σf) : ∀ (σ : mt_St), mt_V K cX6_tear RX6 5 7 σ 20 [(0, .ref (mt_adr (kG K) 56))] [] (bX6_tear_20 fu σ = some (r, σf)) := by
  intro σ
  unfold bX6_tear_20
  refine mv_aload_n 0 dX6_tear_20 rfl rfl ?_
  refine mv_ldc kc_X6_60 dX6_tear_21 ?_
  refine mv_cVwi (As := [.int (-1000001 : Int32)]) (st := []) cal_X6_finding ins_X6_finding ml_X6_66 rfl (by decide) rfl rfl (by decide) rfl (Nat.le_of_ble_eq_true rfl) dX6_tear_23 (fun r s h => co_X6_finding h) (fun r1 s2 => ?_)
  exact mv_iret hQ dX6_tear_26
def fX6_tear (fu : Nat) (σ : mt_St) (a1 : Int32) (a2 : Int32) : Option (Int32 × mt_St) :=
  mt_ask (fX6_within fu a1 (0 : Int32) (99999 : Int32)) fun r1 =>
  if r1 = 0 then
    bX6_tear_20 fu σ
  else
    mt_ask (fX6_within fu a2 (0 : Int32) (20 : Int32)) fun r2 =>
    if r2 = 0 then
      bX6_tear_20 fu σ
    else
      bX6_tear_41 fu fu σ a1 a2 (-1 : Int32) (((1 : Int32) <<< ((σ 57 1) &&& 31)) - (1 : Int32))
set_option maxHeartbeats 4000000 in
set_option maxRecDepth 20000 in
theorem vX6_tear {K : mt_C} {fu : Nat} {σ : mt_St} {a1 : Int32} {a2 : Int32} {r : Int32} {σf : mt_St} (hQ : mt_R K (some .int) (some (.int r)) σf) : mt_V K cX6_tear RX6 5 7 σ 0 [(0, .ref (mt_adr (kG K) 56)), (1, .int a1), (2, .int a2)] [] (fX6_tear fu σ a1 a2 = some (r, σf)) := by
  unfold fX6_tear
  refine mv_iload_n 1 dX6_tear_0 rfl rfl ?_
  refine mv_iconst (v := 0) dX6_tear_1 ic_0 ?_
  refine mv_ldc kc_X6_149 dX6_tear_2 ?_
  refine mv_cSri (As := [.int a1, .int (0 : Int32), .int (99999 : Int32)]) (st := []) cal_X6_within sta_X6_within ml_X6_70 rfl (by decide) rfl (Nat.le_of_ble_eq_true rfl) dX6_tear_4 (fun r h => co_X6_within h) (fun r1 => ?_)
  refine mv_if_eq 20 dX6_tear_7 (by decide) ?_ ?_
  · refine mv_sub (lv' := [(0, .ref (mt_adr (kG K) 56))]) [0] rfl ?_
    exact vX6_tear_20 hQ σ
  · refine mv_iload_n 2 dX6_tear_10 rfl rfl ?_
    refine mv_iconst (v := 0) dX6_tear_11 ic_0 ?_
    refine mv_bipush (v := 20) dX6_tear_12 bp_20 ?_
    refine mv_cSri (As := [.int a2, .int (0 : Int32), .int (20 : Int32)]) (st := []) cal_X6_within sta_X6_within ml_X6_70 rfl (by decide) rfl (Nat.le_of_ble_eq_true rfl) dX6_tear_14 (fun r h => co_X6_within h) (fun r2 => ?_)
    refine mv_if_ne 27 dX6_tear_17 (by decide) ?_ ?_
    · refine mv_iconst (v := -1) dX6_tear_27 ic_m1 ?_
      refine mv_istore_n (lv' := [(0, .ref (mt_adr (kG K) 56)), (1, .int a1), (2, .int a2), (3, .int (-1 : Int32))]) [1, 2, 3, 0] dX6_tear_28 rfl (by decide) rfl ?_
      refine mv_iconst (v := 1) dX6_tear_29 ic_1 ?_
      refine mv_aload_n 0 dX6_tear_30 rfl rfl ?_
      refine mg_X6_0 fl_X6_9 dX6_tear_31 ?_
      refine mv_iconst (v := 1) dX6_tear_34 ic_1 ?_
      refine mv_ialdk 86 1 rfl rfl (by decide) (by decide) dX6_tear_35 ?_
      refine mv_ishl dX6_tear_36 ?_
      refine mv_iconst (v := 1) dX6_tear_37 ic_1 ?_
      refine mv_isub dX6_tear_38 ?_
      refine mv_istore (lv' := [(0, .ref (mt_adr (kG K) 56)), (1, .int a1), (2, .int a2), (3, .int (-1 : Int32)), (4, .int (((1 : Int32) <<< ((σ 57 1) &&& 31)) - (1 : Int32)))]) [1, 2, 3, 4, 0] dX6_tear_39 (by decide) rfl ?_
      exact vX6_tear_41 hQ fu σ a1 a2 (-1 : Int32) (((1 : Int32) <<< ((σ 57 1) &&& 31)) - (1 : Int32))
    · refine mv_sub (lv' := [(0, .ref (mt_adr (kG K) 56))]) [0] rfl ?_
      exact vX6_tear_20 hQ σ
theorem co_X6_tear {l : Launch} {G : mt_G} {fu : Nat} {σ : mt_St} {a1 : Int32} {a2 : Int32} {r : Int32} {σf : mt_St}  (h : fX6_tear fu σ a1 a2 = some (r, σf)) : mt_Con l G yX6_tear cX6_tear 5 (some .int) 7 [.ref (mt_adr G 56), .int a1, .int a2] σ (some (.int r)) σf :=
  mt_con (by decide) (Nat.le_of_ble_eq_true rfl) (fun K hl hG hQ => by subst hl; subst hG; exact fun _ => vX6_tear  hQ h)
theorem dX6_isSheet_0 : decode cX6_isSheet 0 = .ok (.iload_n 0, 1) := by decide +kernel
theorem dX6_isSheet_1 : decode cX6_isSheet 1 = .ok (.iconst 0, 1) := by decide +kernel
theorem dX6_isSheet_2 : decode cX6_isSheet 2 = .ok (.iconst 3, 1) := by decide +kernel
theorem dX6_isSheet_3 : decode cX6_isSheet 3 = .ok (.invokestatic 70, 3) := by decide +kernel
theorem dX6_isSheet_6 : decode cX6_isSheet 6 = .ok (.ireturn, 1) := by decide +kernel
def fX6_isSheet (fu : Nat) (a1 : Int32) : Option Int32 :=
  mt_ask (fX6_within fu a1 (0 : Int32) (3 : Int32)) fun r1 =>
  mt_chk (mt_b01 r1) (some r1)
set_option maxHeartbeats 4000000 in
set_option maxRecDepth 20000 in
theorem vX6_isSheet {K : mt_C} {fu : Nat} {σ : mt_St} {a1 : Int32} {r : Int32} (hQ : mt_R K (some .boolean) (some (.int r)) σ) : mt_V K cX6_isSheet RX6 1 1 σ 0 [(0, .int a1)] [] (fX6_isSheet fu a1 = some r) := by
  unfold fX6_isSheet
  refine mv_iload_n 0 dX6_isSheet_0 rfl rfl ?_
  refine mv_iconst (v := 0) dX6_isSheet_1 ic_0 ?_
  refine mv_iconst (v := 3) dX6_isSheet_2 ic_3 ?_
  refine mv_cSri (As := [.int a1, .int (0 : Int32), .int (3 : Int32)]) (st := []) cal_X6_within sta_X6_within ml_X6_70 rfl (by decide) rfl (Nat.le_of_ble_eq_true rfl) dX6_isSheet_3 (fun r h => co_X6_within h) (fun r1 => ?_)
  exact mv_zretr hQ dX6_isSheet_6
theorem co_X6_isSheet {l : Launch} {G : mt_G} {fu : Nat} {σ : mt_St} {a1 : Int32} {r : Int32}  (h : fX6_isSheet fu a1 = some r) : mt_Con l G yX6_isSheet cX6_isSheet 1 (some .boolean) 1 [.int a1] σ (some (.int r)) σ :=
  mt_con (by decide) (Nat.le_of_ble_eq_true rfl) (fun K hl hG hQ => by subst hl; subst hG; exact fun _ => vX6_isSheet  hQ h)
theorem dX6_lacks_0 : decode cX6_lacks 0 = .ok (.iload_n 1, 1) := by decide +kernel
theorem dX6_lacks_1 : decode cX6_lacks 1 = .ok (.invokestatic 207, 3) := by decide +kernel
theorem dX6_lacks_4 : decode cX6_lacks 4 = .ok (.ifCond .ne 8, 3) := by decide +kernel
theorem dX6_lacks_7 : decode cX6_lacks 7 = .ok (.ldc 60, 2) := by decide +kernel
theorem dX6_lacks_9 : decode cX6_lacks 9 = .ok (.goto 27, 3) := by decide +kernel
theorem dX6_lacks_12 : decode cX6_lacks 12 = .ok (.aload_n 0, 1) := by decide +kernel
theorem dX6_lacks_13 : decode cX6_lacks 13 = .ok (.getfield 48, 3) := by decide +kernel
theorem dX6_lacks_16 : decode cX6_lacks 16 = .ok (.iload_n 1, 1) := by decide +kernel
theorem dX6_lacks_17 : decode cX6_lacks 17 = .ok (.iaload, 1) := by decide +kernel
theorem dX6_lacks_18 : decode cX6_lacks 18 = .ok (.ifCond .ne 8, 3) := by decide +kernel
theorem dX6_lacks_21 : decode cX6_lacks 21 = .ok (.ldc 210, 2) := by decide +kernel
theorem dX6_lacks_23 : decode cX6_lacks 23 = .ok (.goto 13, 3) := by decide +kernel
theorem dX6_lacks_26 : decode cX6_lacks 26 = .ok (.iload_n 2, 1) := by decide +kernel
theorem dX6_lacks_27 : decode cX6_lacks 27 = .ok (.ifCond .eq 7, 3) := by decide +kernel
theorem dX6_lacks_30 : decode cX6_lacks 30 = .ok (.iconst 0, 1) := by decide +kernel
theorem dX6_lacks_31 : decode cX6_lacks 31 = .ok (.goto 5, 3) := by decide +kernel
theorem dX6_lacks_34 : decode cX6_lacks 34 = .ok (.ldc 60, 2) := by decide +kernel
theorem dX6_lacks_36 : decode cX6_lacks 36 = .ok (.ireturn, 1) := by decide +kernel
def bX6_lacks_36 (fu : Nat) (σ : mt_St) (y0 : Int32) : Option Int32 :=
  some y0
set_option maxHeartbeats 4000000 in
set_option maxRecDepth 20000 in
theorem vX6_lacks_36 {K : mt_C} {fu : Nat} {σ : mt_St} {r : Int32} (hQ : mt_R K (some .int) (some (.int r)) σ) : ∀ (y0 : Int32), mt_V K cX6_lacks RX6 3 2 σ 36 [] [.int y0] (bX6_lacks_36 fu σ y0 = some r) := by
  intro y0
  unfold bX6_lacks_36
  exact mv_iretr hQ dX6_lacks_36
def fX6_lacks (fu : Nat) (σ : mt_St) (a1 : Int32) (a2 : Int32) : Option Int32 :=
  mt_ask (fX6_isSheet fu a1) fun r1 =>
  if r1 = 0 then
    bX6_lacks_36 fu σ (-1000001 : Int32)
  else
    mt_chk (mt_in a1 4) <|
    if (σ 64 (Int32.toNatClampNeg a1)) = 0 then
      bX6_lacks_36 fu σ (-1000006 : Int32)
    else
      if a2 = 0 then
        bX6_lacks_36 fu σ (-1000001 : Int32)
      else
        bX6_lacks_36 fu σ (0 : Int32)
set_option maxHeartbeats 4000000 in
set_option maxRecDepth 20000 in
theorem vX6_lacks {K : mt_C} {fu : Nat} {σ : mt_St} {a1 : Int32} {a2 : Int32} {r : Int32} (hQ : mt_R K (some .int) (some (.int r)) σ) : mt_V K cX6_lacks RX6 3 2 σ 0 [(0, .ref (mt_adr (kG K) 56)), (1, .int a1), (2, .int a2)] [] (fX6_lacks fu σ a1 a2 = some r) := by
  unfold fX6_lacks
  refine mv_iload_n 1 dX6_lacks_0 rfl rfl ?_
  refine mv_cSri (As := [.int a1]) (st := []) cal_X6_isSheet sta_X6_isSheet ml_X6_207 rfl (by decide) rfl (Nat.le_of_ble_eq_true rfl) dX6_lacks_1 (fun r h => co_X6_isSheet h) (fun r1 => ?_)
  refine mv_if_ne 12 dX6_lacks_4 (by decide) ?_ ?_
  · refine mv_aload_n 0 dX6_lacks_12 rfl rfl ?_
    refine mg_X6_17 fl_X6_48 dX6_lacks_13 ?_
    refine mv_iload_n 1 dX6_lacks_16 rfl rfl ?_
    refine mv_iald 4 rfl rfl dX6_lacks_17 ?_
    refine mv_if_ne 26 dX6_lacks_18 (by decide) ?_ ?_
    · refine mv_iload_n 2 dX6_lacks_26 rfl rfl ?_
      refine mv_if_eq 34 dX6_lacks_27 (by decide) ?_ ?_
      · refine mv_ldc kc_X6_60 dX6_lacks_34 ?_
        refine mv_sub (lv' := []) [] rfl ?_
        exact vX6_lacks_36 hQ (-1000001 : Int32)
      · refine mv_iconst (v := 0) dX6_lacks_30 ic_0 ?_
        refine mv_goto 36 dX6_lacks_31 (by decide) ?_
        refine mv_sub (lv' := []) [] rfl ?_
        exact vX6_lacks_36 hQ (0 : Int32)
    · refine mv_ldc kc_X6_210 dX6_lacks_21 ?_
      refine mv_goto 36 dX6_lacks_23 (by decide) ?_
      refine mv_sub (lv' := []) [] rfl ?_
      exact vX6_lacks_36 hQ (-1000006 : Int32)
  · refine mv_ldc kc_X6_60 dX6_lacks_7 ?_
    refine mv_goto 36 dX6_lacks_9 (by decide) ?_
    refine mv_sub (lv' := []) [] rfl ?_
    exact vX6_lacks_36 hQ (-1000001 : Int32)
theorem co_X6_lacks {l : Launch} {G : mt_G} {fu : Nat} {σ : mt_St} {a1 : Int32} {a2 : Int32} {r : Int32}  (h : fX6_lacks fu σ a1 a2 = some r) : mt_Con l G yX6_lacks cX6_lacks 3 (some .int) 2 [.ref (mt_adr G 56), .int a1, .int a2] σ (some (.int r)) σ :=
  mt_con (by decide) (Nat.le_of_ble_eq_true rfl) (fun K hl hG hQ => by subst hl; subst hG; exact fun _ => vX6_lacks  hQ h)
theorem dX6_isSo_0 : decode cX6_isSo 0 = .ok (.aload_n 0, 1) := by decide +kernel
theorem dX6_isSo_1 : decode cX6_isSo 1 = .ok (.getfield 9, 3) := by decide +kernel
theorem dX6_isSo_4 : decode cX6_isSo 4 = .ok (.aload_n 0, 1) := by decide +kernel
theorem dX6_isSo_5 : decode cX6_isSo 5 = .ok (.getfield 16, 3) := by decide +kernel
theorem dX6_isSo_8 : decode cX6_isSo 8 = .ok (.invokestatic 61, 3) := by decide +kernel
theorem dX6_isSo_11 : decode cX6_isSo 11 = .ok (.iconst 1, 1) := by decide +kernel
theorem dX6_isSo_12 : decode cX6_isSo 12 = .ok (.istore 4, 2) := by decide +kernel
theorem dX6_isSo_14 : decode cX6_isSo 14 = .ok (.iconst 0, 1) := by decide +kernel
theorem dX6_isSo_15 : decode cX6_isSo 15 = .ok (.istore 5, 2) := by decide +kernel
theorem dX6_isSo_17 : decode cX6_isSo 17 = .ok (.iload 5, 2) := by decide +kernel
theorem dX6_isSo_19 : decode cX6_isSo 19 = .ok (.iload_n 3, 1) := by decide +kernel
theorem dX6_isSo_20 : decode cX6_isSo 20 = .ok (.if_icmp .ge 56, 3) := by decide +kernel
theorem dX6_isSo_23 : decode cX6_isSo 23 = .ok (.iload 4, 2) := by decide +kernel
theorem dX6_isSo_25 : decode cX6_isSo 25 = .ok (.ifCond .eq 51, 3) := by decide +kernel
theorem dX6_isSo_28 : decode cX6_isSo 28 = .ok (.aload_n 0, 1) := by decide +kernel
theorem dX6_isSo_29 : decode cX6_isSo 29 = .ok (.getfield 54, 3) := by decide +kernel
theorem dX6_isSo_32 : decode cX6_isSo 32 = .ok (.bipush 40, 2) := by decide +kernel
theorem dX6_isSo_34 : decode cX6_isSo 34 = .ok (.iload_n 1, 1) := by decide +kernel
theorem dX6_isSo_35 : decode cX6_isSo 35 = .ok (.imul, 1) := by decide +kernel
theorem dX6_isSo_36 : decode cX6_isSo 36 = .ok (.iload 5, 2) := by decide +kernel
theorem dX6_isSo_38 : decode cX6_isSo 38 = .ok (.iadd, 1) := by decide +kernel
theorem dX6_isSo_39 : decode cX6_isSo 39 = .ok (.iaload, 1) := by decide +kernel
theorem dX6_isSo_40 : decode cX6_isSo 40 = .ok (.istore 6, 2) := by decide +kernel
theorem dX6_isSo_42 : decode cX6_isSo 42 = .ok (.iload 6, 2) := by decide +kernel
theorem dX6_isSo_44 : decode cX6_isSo 44 = .ok (.iconst (-1), 1) := by decide +kernel
theorem dX6_isSo_45 : decode cX6_isSo 45 = .ok (.if_icmp .eq 14, 3) := by decide +kernel
theorem dX6_isSo_48 : decode cX6_isSo 48 = .ok (.iload 6, 2) := by decide +kernel
theorem dX6_isSo_50 : decode cX6_isSo 50 = .ok (.aload_n 0, 1) := by decide +kernel
theorem dX6_isSo_51 : decode cX6_isSo 51 = .ok (.getfield 9, 3) := by decide +kernel
theorem dX6_isSo_54 : decode cX6_isSo 54 = .ok (.iload_n 2, 1) := by decide +kernel
theorem dX6_isSo_55 : decode cX6_isSo 55 = .ok (.iaload, 1) := by decide +kernel
theorem dX6_isSo_56 : decode cX6_isSo 56 = .ok (.if_icmp .ne 7, 3) := by decide +kernel
theorem dX6_isSo_59 : decode cX6_isSo 59 = .ok (.iconst 1, 1) := by decide +kernel
theorem dX6_isSo_60 : decode cX6_isSo 60 = .ok (.goto 4, 3) := by decide +kernel
theorem dX6_isSo_63 : decode cX6_isSo 63 = .ok (.iconst 0, 1) := by decide +kernel
theorem dX6_isSo_64 : decode cX6_isSo 64 = .ok (.istore 4, 2) := by decide +kernel
theorem dX6_isSo_66 : decode cX6_isSo 66 = .ok (.aload_n 0, 1) := by decide +kernel
theorem dX6_isSo_67 : decode cX6_isSo 67 = .ok (.invokevirtual 160, 3) := by decide +kernel
theorem dX6_isSo_70 : decode cX6_isSo 70 = .ok (.iinc 5 1, 3) := by decide +kernel
theorem dX6_isSo_73 : decode cX6_isSo 73 = .ok (.goto (-56), 3) := by decide +kernel
theorem dX6_isSo_76 : decode cX6_isSo 76 = .ok (.aload_n 0, 1) := by decide +kernel
theorem dX6_isSo_77 : decode cX6_isSo 77 = .ok (.getfield 16, 3) := by decide +kernel
theorem dX6_isSo_80 : decode cX6_isSo 80 = .ok (.aload_n 0, 1) := by decide +kernel
theorem dX6_isSo_81 : decode cX6_isSo 81 = .ok (.getfield 9, 3) := by decide +kernel
theorem dX6_isSo_84 : decode cX6_isSo 84 = .ok (.invokestatic 61, 3) := by decide +kernel
theorem dX6_isSo_87 : decode cX6_isSo 87 = .ok (.iload 4, 2) := by decide +kernel
theorem dX6_isSo_89 : decode cX6_isSo 89 = .ok (.ireturn, 1) := by decide +kernel
def bX6_isSo_76 (fu : Nat) (σ : mt_St) (x4 : Int32) : Option (Int32 × mt_St) :=
  mt_call (fX6_copyRow fu σ 59 57) fun _ s2 =>
  mt_chk (mt_b01 x4) (some (x4, s2))
set_option maxHeartbeats 4000000 in
set_option maxRecDepth 20000 in
theorem vX6_isSo_76 {K : mt_C} {fu : Nat} {r : Int32} {σf : mt_St} (hQ : mt_R K (some .boolean) (some (.int r)) σf) : ∀ (σ : mt_St) (x4 : Int32), mt_V K cX6_isSo RX6 7 5 σ 76 [(0, .ref (mt_adr (kG K) 56)), (4, .int x4)] [] (bX6_isSo_76 fu σ x4 = some (r, σf)) := by
  intro σ x4
  unfold bX6_isSo_76
  refine mv_aload_n 0 dX6_isSo_76 rfl rfl ?_
  refine mg_X6_2 fl_X6_16 dX6_isSo_77 ?_
  refine mv_aload_n 0 dX6_isSo_80 rfl rfl ?_
  refine mg_X6_0 fl_X6_9 dX6_isSo_81 ?_
  refine mv_cSwv (As := [.ref (mt_adr (kG K) 59), .ref (mt_adr (kG K) 57)]) (st := []) cal_X6_copyRow sta_X6_copyRow ml_X6_61 rfl (by decide) rfl (Nat.le_of_ble_eq_true rfl) dX6_isSo_84 (fun r s h => co_X6_copyRow rfl rfl rfl rfl h) (fun r1 s2 => ?_)
  refine mv_iload 1 dX6_isSo_87 rfl ?_
  exact mv_zret hQ dX6_isSo_89
def bX6_isSo_64 (fu : Nat) (k17 : mt_St → Int32 → Int32 → Int32 → Int32 → Int32 → Option (Int32 × mt_St)) (σ : mt_St) (x1 : Int32) (x2 : Int32) (x3 : Int32) (x5 : Int32) (y0 : Int32) : Option (Int32 × mt_St) :=
  mt_call (fX6_year fu σ) fun _ s2 =>
  k17 s2 x1 x2 x3 y0 (x5 + 1)
set_option maxHeartbeats 4000000 in
set_option maxRecDepth 20000 in
theorem vX6_isSo_64 {K : mt_C} {fu : Nat} {r : Int32} {σf : mt_St} (hQ : mt_R K (some .boolean) (some (.int r)) σf) {k17 : mt_St → Int32 → Int32 → Int32 → Int32 → Int32 → Option (Int32 × mt_St)} (hk17 : ∀ (s0 : mt_St) (x1 : Int32) (x2 : Int32) (x3 : Int32) (x4 : Int32) (x5 : Int32), mt_V K cX6_isSo RX6 7 5 s0 17 [(0, .ref (mt_adr (kG K) 56)), (1, .int x1), (2, .int x2), (3, .int x3), (4, .int x4), (5, .int x5)] [] (k17 s0 x1 x2 x3 x4 x5 = some (r, σf))) : ∀ (σ : mt_St) (x1 : Int32) (x2 : Int32) (x3 : Int32) (x5 : Int32) (y0 : Int32), mt_V K cX6_isSo RX6 7 5 σ 64 [(0, .ref (mt_adr (kG K) 56)), (1, .int x1), (2, .int x2), (3, .int x3), (5, .int x5)] [.int y0] (bX6_isSo_64 fu k17 σ x1 x2 x3 x5 y0 = some (r, σf)) := by
  intro σ x1 x2 x3 x5 y0
  unfold bX6_isSo_64
  refine mv_istore (lv' := [(0, .ref (mt_adr (kG K) 56)), (1, .int x1), (2, .int x2), (3, .int x3), (4, .int y0), (5, .int x5)]) [1, 2, 3, 4, 0, 5] dX6_isSo_64 (by decide) rfl ?_
  refine mv_aload_n 0 dX6_isSo_66 rfl rfl ?_
  refine mv_cVwv (As := []) (st := []) cal_X6_year ins_X6_year ml_X6_160 rfl (by decide) rfl rfl (by decide) rfl (Nat.le_of_ble_eq_true rfl) dX6_isSo_67 (fun r s h => co_X6_year h) (fun r1 s2 => ?_)
  refine mv_iinc (k0 := 5) (v := x5 + 1) (lv' := [(0, .ref (mt_adr (kG K) 56)), (1, .int x1), (2, .int x2), (3, .int x3), (4, .int y0), (5, .int (x5 + 1))]) [1, 2, 3, 4, 5, 0] dX6_isSo_70 rfl (mt_inc ic_1) (by decide) rfl ?_
  refine mv_goto 17 dX6_isSo_73 (by decide) ?_
  exact hk17 s2 x1 x2 x3 y0 (x5 + 1)
def bX6_isSo_59 (fu : Nat) (k17 : mt_St → Int32 → Int32 → Int32 → Int32 → Int32 → Option (Int32 × mt_St)) (σ : mt_St) (x1 : Int32) (x2 : Int32) (x3 : Int32) (x5 : Int32) : Option (Int32 × mt_St) :=
  bX6_isSo_64 fu k17 σ x1 x2 x3 x5 (1 : Int32)
set_option maxHeartbeats 4000000 in
set_option maxRecDepth 20000 in
theorem vX6_isSo_59 {K : mt_C} {fu : Nat} {r : Int32} {σf : mt_St} (hQ : mt_R K (some .boolean) (some (.int r)) σf) {k17 : mt_St → Int32 → Int32 → Int32 → Int32 → Int32 → Option (Int32 × mt_St)} (hk17 : ∀ (s0 : mt_St) (x1 : Int32) (x2 : Int32) (x3 : Int32) (x4 : Int32) (x5 : Int32), mt_V K cX6_isSo RX6 7 5 s0 17 [(0, .ref (mt_adr (kG K) 56)), (1, .int x1), (2, .int x2), (3, .int x3), (4, .int x4), (5, .int x5)] [] (k17 s0 x1 x2 x3 x4 x5 = some (r, σf))) : ∀ (σ : mt_St) (x1 : Int32) (x2 : Int32) (x3 : Int32) (x5 : Int32), mt_V K cX6_isSo RX6 7 5 σ 59 [(0, .ref (mt_adr (kG K) 56)), (1, .int x1), (2, .int x2), (3, .int x3), (5, .int x5)] [] (bX6_isSo_59 fu k17 σ x1 x2 x3 x5 = some (r, σf)) := by
  intro σ x1 x2 x3 x5
  unfold bX6_isSo_59
  refine mv_iconst (v := 1) dX6_isSo_59 ic_1 ?_
  refine mv_goto 64 dX6_isSo_60 (by decide) ?_
  exact vX6_isSo_64 hQ hk17 σ x1 x2 x3 x5 (1 : Int32)
def bX6_isSo_17 (fu : Nat) : Nat → mt_St → Int32 → Int32 → Int32 → Int32 → Int32 → Option (Int32 × mt_St)
  | 0, _, _, _, _, _, _ => none
  | n + 1, σ, x1, x2, x3, x4, x5 =>
    if x3 ≤ x5 then
      bX6_isSo_76 fu σ x4
    else
      if x4 = 0 then
        bX6_isSo_76 fu σ x4
      else
        mt_chk (mt_in (((40 : Int32) * x1) + x5) 160) <|
        if (σ 66 (Int32.toNatClampNeg (((40 : Int32) * x1) + x5))) = (-1 : Int32) then
          bX6_isSo_59 fu (fun s0 x1 x2 x3 x4 x5 => bX6_isSo_17 fu n s0 x1 x2 x3 x4 x5) σ x1 x2 x3 x5
        else
          mt_chk (mt_in x2 86) <|
          if (σ 66 (Int32.toNatClampNeg (((40 : Int32) * x1) + x5))) = (σ 57 (Int32.toNatClampNeg x2)) then
            bX6_isSo_59 fu (fun s0 x1 x2 x3 x4 x5 => bX6_isSo_17 fu n s0 x1 x2 x3 x4 x5) σ x1 x2 x3 x5
          else
            bX6_isSo_64 fu (fun s0 x1 x2 x3 x4 x5 => bX6_isSo_17 fu n s0 x1 x2 x3 x4 x5) σ x1 x2 x3 x5 (0 : Int32)
set_option maxHeartbeats 4000000 in
set_option maxRecDepth 20000 in
theorem vX6_isSo_17 {K : mt_C} {fu : Nat} {r : Int32} {σf : mt_St} (hQ : mt_R K (some .boolean) (some (.int r)) σf) : ∀ (n : Nat) (σ : mt_St) (x1 : Int32) (x2 : Int32) (x3 : Int32) (x4 : Int32) (x5 : Int32), mt_V K cX6_isSo RX6 7 5 σ 17 [(0, .ref (mt_adr (kG K) 56)), (1, .int x1), (2, .int x2), (3, .int x3), (4, .int x4), (5, .int x5)] [] (bX6_isSo_17 fu n σ x1 x2 x3 x4 x5 = some (r, σf)) := by
  intro n
  induction n with
  | zero => intro σ x1 x2 x3 x4 x5; intro hP; unfold bX6_isSo_17 at hP; cases hP
  | succ n ih =>
    intro σ x1 x2 x3 x4 x5
    unfold bX6_isSo_17
    refine mv_iload 5 dX6_isSo_17 rfl ?_
    refine mv_iload_n 3 dX6_isSo_19 rfl rfl ?_
    refine mv_icmp_ge 76 dX6_isSo_20 (by decide) ?_ ?_
    · refine mv_sub (lv' := [(0, .ref (mt_adr (kG K) 56)), (4, .int x4)]) [0, 4] rfl ?_
      exact vX6_isSo_76 hQ σ x4
    · refine mv_iload 4 dX6_isSo_23 rfl ?_
      refine mv_if_eq 76 dX6_isSo_25 (by decide) ?_ ?_
      · refine mv_sub (lv' := [(0, .ref (mt_adr (kG K) 56)), (4, .int x4)]) [0, 4] rfl ?_
        exact vX6_isSo_76 hQ σ x4
      · refine mv_aload_n 0 dX6_isSo_28 rfl rfl ?_
        refine mg_X6_19 fl_X6_54 dX6_isSo_29 ?_
        refine mv_bipush (v := 40) dX6_isSo_32 bp_40 ?_
        refine mv_iload_n 1 dX6_isSo_34 rfl rfl ?_
        refine mv_imul dX6_isSo_35 ?_
        refine mv_iload 5 dX6_isSo_36 rfl ?_
        refine mv_iadd dX6_isSo_38 ?_
        refine mv_iald 160 rfl rfl dX6_isSo_39 ?_
        refine mv_istore (lv' := [(0, .ref (mt_adr (kG K) 56)), (1, .int x1), (2, .int x2), (3, .int x3), (5, .int x5), (6, .int (σ 66 (Int32.toNatClampNeg (((40 : Int32) * x1) + x5))))]) [1, 2, 3, 4, 6, 0] dX6_isSo_40 (by decide) rfl ?_
        refine mv_iload 5 dX6_isSo_42 rfl ?_
        refine mv_iconst (v := -1) dX6_isSo_44 ic_m1 ?_
        refine mv_icmp_eq 59 dX6_isSo_45 (by decide) ?_ ?_
        · refine mv_sub (lv' := [(0, .ref (mt_adr (kG K) 56)), (1, .int x1), (2, .int x2), (3, .int x3), (5, .int x5)]) [0, 1, 2, 3, 4] rfl ?_
          exact vX6_isSo_59 hQ (fun s0 x1 x2 x3 x4 x5 => ih s0 x1 x2 x3 x4 x5) σ x1 x2 x3 x5
        · refine mv_iload 5 dX6_isSo_48 rfl ?_
          refine mv_aload_n 0 dX6_isSo_50 rfl rfl ?_
          refine mg_X6_0 fl_X6_9 dX6_isSo_51 ?_
          refine mv_iload_n 2 dX6_isSo_54 rfl rfl ?_
          refine mv_iald 86 rfl rfl dX6_isSo_55 ?_
          refine mv_icmp_ne 63 dX6_isSo_56 (by decide) ?_ ?_
          · refine mv_iconst (v := 0) dX6_isSo_63 ic_0 ?_
            refine mv_sub (lv' := [(0, .ref (mt_adr (kG K) 56)), (1, .int x1), (2, .int x2), (3, .int x3), (5, .int x5)]) [0, 1, 2, 3, 4] rfl ?_
            exact vX6_isSo_64 hQ (fun s0 x1 x2 x3 x4 x5 => ih s0 x1 x2 x3 x4 x5) σ x1 x2 x3 x5 (0 : Int32)
          · refine mv_sub (lv' := [(0, .ref (mt_adr (kG K) 56)), (1, .int x1), (2, .int x2), (3, .int x3), (5, .int x5)]) [0, 1, 2, 3, 4] rfl ?_
            exact vX6_isSo_59 hQ (fun s0 x1 x2 x3 x4 x5 => ih s0 x1 x2 x3 x4 x5) σ x1 x2 x3 x5
def fX6_isSo (fu : Nat) (σ : mt_St) (a1 : Int32) (a2 : Int32) (a3 : Int32) : Option (Int32 × mt_St) :=
  mt_call (fX6_copyRow fu σ 57 59) fun _ s2 =>
  bX6_isSo_17 fu fu s2 a1 a2 a3 (1 : Int32) (0 : Int32)
set_option maxHeartbeats 4000000 in
set_option maxRecDepth 20000 in
theorem vX6_isSo {K : mt_C} {fu : Nat} {σ : mt_St} {a1 : Int32} {a2 : Int32} {a3 : Int32} {r : Int32} {σf : mt_St} (hQ : mt_R K (some .boolean) (some (.int r)) σf) : mt_V K cX6_isSo RX6 7 5 σ 0 [(0, .ref (mt_adr (kG K) 56)), (1, .int a1), (2, .int a2), (3, .int a3)] [] (fX6_isSo fu σ a1 a2 a3 = some (r, σf)) := by
  unfold fX6_isSo
  refine mv_aload_n 0 dX6_isSo_0 rfl rfl ?_
  refine mg_X6_0 fl_X6_9 dX6_isSo_1 ?_
  refine mv_aload_n 0 dX6_isSo_4 rfl rfl ?_
  refine mg_X6_2 fl_X6_16 dX6_isSo_5 ?_
  refine mv_cSwv (As := [.ref (mt_adr (kG K) 57), .ref (mt_adr (kG K) 59)]) (st := []) cal_X6_copyRow sta_X6_copyRow ml_X6_61 rfl (by decide) rfl (Nat.le_of_ble_eq_true rfl) dX6_isSo_8 (fun r s h => co_X6_copyRow rfl rfl rfl rfl h) (fun r1 s2 => ?_)
  refine mv_iconst (v := 1) dX6_isSo_11 ic_1 ?_
  refine mv_istore (lv' := [(0, .ref (mt_adr (kG K) 56)), (1, .int a1), (2, .int a2), (3, .int a3), (4, .int (1 : Int32))]) [1, 2, 3, 4, 0] dX6_isSo_12 (by decide) rfl ?_
  refine mv_iconst (v := 0) dX6_isSo_14 ic_0 ?_
  refine mv_istore (lv' := [(0, .ref (mt_adr (kG K) 56)), (1, .int a1), (2, .int a2), (3, .int a3), (4, .int (1 : Int32)), (5, .int (0 : Int32))]) [1, 2, 3, 4, 5, 0] dX6_isSo_15 (by decide) rfl ?_
  exact vX6_isSo_17 hQ fu s2 a1 a2 a3 (1 : Int32) (0 : Int32)
theorem co_X6_isSo {l : Launch} {G : mt_G} {fu : Nat} {σ : mt_St} {a1 : Int32} {a2 : Int32} {a3 : Int32} {r : Int32} {σf : mt_St}  (h : fX6_isSo fu σ a1 a2 a3 = some (r, σf)) : mt_Con l G yX6_isSo cX6_isSo 7 (some .boolean) 5 [.ref (mt_adr G 56), .int a1, .int a2, .int a3] σ (some (.int r)) σf :=
  mt_con (by decide) (Nat.le_of_ble_eq_true rfl) (fun K hl hG hQ => by subst hl; subst hG; exact fun _ => vX6_isSo  hQ h)
theorem dX6_fits_0 : decode cX6_fits 0 = .ok (.aload_n 0, 1) := by decide +kernel
theorem dX6_fits_1 : decode cX6_fits 1 = .ok (.iload_n 1, 1) := by decide +kernel
theorem dX6_fits_2 : decode cX6_fits 2 = .ok (.aload_n 0, 1) := by decide +kernel
theorem dX6_fits_3 : decode cX6_fits 3 = .ok (.iload_n 2, 1) := by decide +kernel
theorem dX6_fits_4 : decode cX6_fits 4 = .ok (.invokevirtual 120, 3) := by decide +kernel
theorem dX6_fits_7 : decode cX6_fits 7 = .ok (.invokevirtual 211, 3) := by decide +kernel
theorem dX6_fits_10 : decode cX6_fits 10 = .ok (.istore_n 3, 1) := by decide +kernel
theorem dX6_fits_11 : decode cX6_fits 11 = .ok (.iload_n 3, 1) := by decide +kernel
theorem dX6_fits_12 : decode cX6_fits 12 = .ok (.ifCond .eq 9, 3) := by decide +kernel
theorem dX6_fits_15 : decode cX6_fits 15 = .ok (.aload_n 0, 1) := by decide +kernel
theorem dX6_fits_16 : decode cX6_fits 16 = .ok (.iload_n 3, 1) := by decide +kernel
theorem dX6_fits_17 : decode cX6_fits 17 = .ok (.invokevirtual 66, 3) := by decide +kernel
theorem dX6_fits_20 : decode cX6_fits 20 = .ok (.ireturn, 1) := by decide +kernel
theorem dX6_fits_21 : decode cX6_fits 21 = .ok (.iload_n 2, 1) := by decide +kernel
theorem dX6_fits_22 : decode cX6_fits 22 = .ok (.iconst 3, 1) := by decide +kernel
theorem dX6_fits_23 : decode cX6_fits 23 = .ok (.invokestatic 85, 3) := by decide +kernel
theorem dX6_fits_26 : decode cX6_fits 26 = .ok (.istore 4, 2) := by decide +kernel
theorem dX6_fits_28 : decode cX6_fits 28 = .ok (.aload_n 0, 1) := by decide +kernel
theorem dX6_fits_29 : decode cX6_fits 29 = .ok (.getfield 9, 3) := by decide +kernel
theorem dX6_fits_32 : decode cX6_fits 32 = .ok (.iload 4, 2) := by decide +kernel
theorem dX6_fits_34 : decode cX6_fits 34 = .ok (.iaload, 1) := by decide +kernel
theorem dX6_fits_35 : decode cX6_fits 35 = .ok (.istore 5, 2) := by decide +kernel
theorem dX6_fits_37 : decode cX6_fits 37 = .ok (.iconst 0, 1) := by decide +kernel
theorem dX6_fits_38 : decode cX6_fits 38 = .ok (.istore 6, 2) := by decide +kernel
theorem dX6_fits_40 : decode cX6_fits 40 = .ok (.iconst 0, 1) := by decide +kernel
theorem dX6_fits_41 : decode cX6_fits 41 = .ok (.istore 7, 2) := by decide +kernel
theorem dX6_fits_43 : decode cX6_fits 43 = .ok (.iload 7, 2) := by decide +kernel
theorem dX6_fits_45 : decode cX6_fits 45 = .ok (.sipush 4096, 3) := by decide +kernel
theorem dX6_fits_48 : decode cX6_fits 48 = .ok (.if_icmp .ge 52, 3) := by decide +kernel
theorem dX6_fits_51 : decode cX6_fits 51 = .ok (.aload_n 0, 1) := by decide +kernel
theorem dX6_fits_52 : decode cX6_fits 52 = .ok (.getfield 9, 3) := by decide +kernel
theorem dX6_fits_55 : decode cX6_fits 55 = .ok (.iload 4, 2) := by decide +kernel
theorem dX6_fits_57 : decode cX6_fits 57 = .ok (.iload 7, 2) := by decide +kernel
theorem dX6_fits_59 : decode cX6_fits 59 = .ok (.iastore, 1) := by decide +kernel
theorem dX6_fits_60 : decode cX6_fits 60 = .ok (.iload 6, 2) := by decide +kernel
theorem dX6_fits_62 : decode cX6_fits 62 = .ok (.aload_n 0, 1) := by decide +kernel
theorem dX6_fits_63 : decode cX6_fits 63 = .ok (.iload_n 1, 1) := by decide +kernel
theorem dX6_fits_64 : decode cX6_fits 64 = .ok (.iload_n 2, 1) := by decide +kernel
theorem dX6_fits_65 : decode cX6_fits 65 = .ok (.iconst 4, 1) := by decide +kernel
theorem dX6_fits_66 : decode cX6_fits 66 = .ok (.invokestatic 85, 3) := by decide +kernel
theorem dX6_fits_69 : decode cX6_fits 69 = .ok (.bipush 8, 2) := by decide +kernel
theorem dX6_fits_71 : decode cX6_fits 71 = .ok (.aload_n 0, 1) := by decide +kernel
theorem dX6_fits_72 : decode cX6_fits 72 = .ok (.getfield 51, 3) := by decide +kernel
theorem dX6_fits_75 : decode cX6_fits 75 = .ok (.iload_n 1, 1) := by decide +kernel
theorem dX6_fits_76 : decode cX6_fits 76 = .ok (.iaload, 1) := by decide +kernel
theorem dX6_fits_77 : decode cX6_fits 77 = .ok (.invokestatic 136, 3) := by decide +kernel
theorem dX6_fits_80 : decode cX6_fits 80 = .ok (.invokevirtual 215, 3) := by decide +kernel
theorem dX6_fits_83 : decode cX6_fits 83 = .ok (.ifCond .eq 7, 3) := by decide +kernel
theorem dX6_fits_86 : decode cX6_fits 86 = .ok (.iconst 1, 1) := by decide +kernel
theorem dX6_fits_87 : decode cX6_fits 87 = .ok (.goto 4, 3) := by decide +kernel
theorem dX6_fits_90 : decode cX6_fits 90 = .ok (.iconst 0, 1) := by decide +kernel
theorem dX6_fits_91 : decode cX6_fits 91 = .ok (.iadd, 1) := by decide +kernel
theorem dX6_fits_92 : decode cX6_fits 92 = .ok (.istore 6, 2) := by decide +kernel
theorem dX6_fits_94 : decode cX6_fits 94 = .ok (.iinc 7 1, 3) := by decide +kernel
theorem dX6_fits_97 : decode cX6_fits 97 = .ok (.goto (-54), 3) := by decide +kernel
theorem dX6_fits_100 : decode cX6_fits 100 = .ok (.aload_n 0, 1) := by decide +kernel
theorem dX6_fits_101 : decode cX6_fits 101 = .ok (.getfield 9, 3) := by decide +kernel
theorem dX6_fits_104 : decode cX6_fits 104 = .ok (.iload 4, 2) := by decide +kernel
theorem dX6_fits_106 : decode cX6_fits 106 = .ok (.iload 5, 2) := by decide +kernel
theorem dX6_fits_108 : decode cX6_fits 108 = .ok (.iastore, 1) := by decide +kernel
theorem dX6_fits_109 : decode cX6_fits 109 = .ok (.iload 6, 2) := by decide +kernel
theorem dX6_fits_111 : decode cX6_fits 111 = .ok (.ireturn, 1) := by decide +kernel
def bX6_fits_91 (fu : Nat) (k43 : mt_St → Int32 → Int32 → Int32 → Int32 → Int32 → Int32 → Option (Int32 × mt_St)) (σ : mt_St) (x1 : Int32) (x2 : Int32) (x4 : Int32) (x5 : Int32) (x7 : Int32) (y0 : Int32) (y1 : Int32) : Option (Int32 × mt_St) :=
  k43 σ x1 x2 x4 x5 (y1 + y0) (x7 + 1)
set_option maxHeartbeats 4000000 in
set_option maxRecDepth 20000 in
theorem vX6_fits_91 {K : mt_C} {fu : Nat} {r : Int32} {σf : mt_St} (hQ : mt_R K (some .int) (some (.int r)) σf) {k43 : mt_St → Int32 → Int32 → Int32 → Int32 → Int32 → Int32 → Option (Int32 × mt_St)} (hk43 : ∀ (s0 : mt_St) (x1 : Int32) (x2 : Int32) (x4 : Int32) (x5 : Int32) (x6 : Int32) (x7 : Int32), mt_V K cX6_fits RX6 8 6 s0 43 [(0, .ref (mt_adr (kG K) 56)), (1, .int x1), (2, .int x2), (4, .int x4), (5, .int x5), (6, .int x6), (7, .int x7)] [] (k43 s0 x1 x2 x4 x5 x6 x7 = some (r, σf))) : ∀ (σ : mt_St) (x1 : Int32) (x2 : Int32) (x4 : Int32) (x5 : Int32) (x7 : Int32) (y0 : Int32) (y1 : Int32), mt_V K cX6_fits RX6 8 6 σ 91 [(0, .ref (mt_adr (kG K) 56)), (1, .int x1), (2, .int x2), (4, .int x4), (5, .int x5), (7, .int x7)] [.int y0, .int y1] (bX6_fits_91 fu k43 σ x1 x2 x4 x5 x7 y0 y1 = some (r, σf)) := by
  intro σ x1 x2 x4 x5 x7 y0 y1
  unfold bX6_fits_91
  refine mv_iadd dX6_fits_91 ?_
  refine mv_istore (lv' := [(0, .ref (mt_adr (kG K) 56)), (1, .int x1), (2, .int x2), (4, .int x4), (5, .int x5), (6, .int (y1 + y0)), (7, .int x7)]) [1, 2, 3, 4, 5, 0, 6] dX6_fits_92 (by decide) rfl ?_
  refine mv_iinc (k0 := 6) (v := x7 + 1) (lv' := [(0, .ref (mt_adr (kG K) 56)), (1, .int x1), (2, .int x2), (4, .int x4), (5, .int x5), (6, .int (y1 + y0)), (7, .int (x7 + 1))]) [1, 2, 3, 4, 5, 6, 0] dX6_fits_94 rfl (mt_inc ic_1) (by decide) rfl ?_
  refine mv_goto 43 dX6_fits_97 (by decide) ?_
  exact hk43 σ x1 x2 x4 x5 (y1 + y0) (x7 + 1)
def bX6_fits_43 (fu : Nat) : Nat → mt_St → Int32 → Int32 → Int32 → Int32 → Int32 → Int32 → Option (Int32 × mt_St)
  | 0, _, _, _, _, _, _, _ => none
  | n + 1, σ, x1, x2, x4, x5, x6, x7 =>
    if (4096 : Int32) ≤ x7 then
      mt_chk (mt_in x4 86) <|
      mt_bnd (mt_up σ 57 (Int32.toNatClampNeg x4) x5) fun s1 =>
      some (x6, s1)
    else
      mt_chk (mt_in x4 86) <|
      mt_bnd (mt_up σ 57 (Int32.toNatClampNeg x4) x7) fun s2 =>
      mt_ask (fX6_treatyAt fu x2 (4 : Int32)) fun r3 =>
      mt_chk (mt_in x1 4) <|
      mt_call (fX6_isSo fu s2 x1 r3 (mt_min (8 : Int32) (s2 65 (Int32.toNatClampNeg x1)))) fun r5 s6 =>
      if r5 = 0 then
        bX6_fits_91 fu (fun s0 x1 x2 x4 x5 x6 x7 => bX6_fits_43 fu n s0 x1 x2 x4 x5 x6 x7) s6 x1 x2 x4 x5 x7 (0 : Int32) x6
      else
        bX6_fits_91 fu (fun s0 x1 x2 x4 x5 x6 x7 => bX6_fits_43 fu n s0 x1 x2 x4 x5 x6 x7) s6 x1 x2 x4 x5 x7 (1 : Int32) x6
set_option maxHeartbeats 4000000 in
set_option maxRecDepth 20000 in
theorem vX6_fits_43 {K : mt_C} {fu : Nat} {r : Int32} {σf : mt_St} (hQ : mt_R K (some .int) (some (.int r)) σf) : ∀ (n : Nat) (σ : mt_St) (x1 : Int32) (x2 : Int32) (x4 : Int32) (x5 : Int32) (x6 : Int32) (x7 : Int32), mt_V K cX6_fits RX6 8 6 σ 43 [(0, .ref (mt_adr (kG K) 56)), (1, .int x1), (2, .int x2), (4, .int x4), (5, .int x5), (6, .int x6), (7, .int x7)] [] (bX6_fits_43 fu n σ x1 x2 x4 x5 x6 x7 = some (r, σf)) := by
  intro n
  induction n with
  | zero => intro σ x1 x2 x4 x5 x6 x7; intro hP; unfold bX6_fits_43 at hP; cases hP
  | succ n ih =>
    intro σ x1 x2 x4 x5 x6 x7
    unfold bX6_fits_43
    refine mv_iload 6 dX6_fits_43 rfl ?_
    refine mv_sipush (v := 4096) dX6_fits_45 sp_4096 ?_
    refine mv_icmp_ge 100 dX6_fits_48 (by decide) ?_ ?_
    · refine mv_aload_n 0 dX6_fits_100 rfl rfl ?_
      refine mg_X6_0 fl_X6_9 dX6_fits_101 ?_
      refine mv_iload 3 dX6_fits_104 rfl ?_
      refine mv_iload 4 dX6_fits_106 rfl ?_
      refine mv_iast 86 rfl rfl dX6_fits_108 (fun s1 => ?_)
      refine mv_iload 5 dX6_fits_109 rfl ?_
      exact mv_iret hQ dX6_fits_111
    · refine mv_aload_n 0 dX6_fits_51 rfl rfl ?_
      refine mg_X6_0 fl_X6_9 dX6_fits_52 ?_
      refine mv_iload 3 dX6_fits_55 rfl ?_
      refine mv_iload 6 dX6_fits_57 rfl ?_
      refine mv_iast 86 rfl rfl dX6_fits_59 (fun s2 => ?_)
      refine mv_iload 5 dX6_fits_60 rfl ?_
      refine mv_aload_n 0 dX6_fits_62 rfl rfl ?_
      refine mv_iload_n 1 dX6_fits_63 rfl rfl ?_
      refine mv_iload_n 2 dX6_fits_64 rfl rfl ?_
      refine mv_iconst (v := 4) dX6_fits_65 ic_4 ?_
      refine mv_cSri (As := [.int x2, .int (4 : Int32)]) (st := [.int x1, .ref (mt_adr (kG K) 56), .int x6]) cal_X6_treatyAt sta_X6_treatyAt ml_X6_85 rfl (by decide) rfl (Nat.le_of_ble_eq_true rfl) dX6_fits_66 (fun r h => co_X6_treatyAt h) (fun r3 => ?_)
      refine mv_bipush (v := 8) dX6_fits_69 bp_8 ?_
      refine mv_aload_n 0 dX6_fits_71 rfl rfl ?_
      refine mg_X6_18 fl_X6_51 dX6_fits_72 ?_
      refine mv_iload_n 1 dX6_fits_75 rfl rfl ?_
      refine mv_iald 4 rfl rfl dX6_fits_76 ?_
      refine mv_mmin mm_X6_136 (by decide) (Nat.le_of_ble_eq_true rfl) dX6_fits_77 ?_
      refine mv_cVwi (As := [.int x1, .int r3, .int (mt_min (8 : Int32) (s2 65 (Int32.toNatClampNeg x1)))]) (st := [.int x6]) cal_X6_isSo ins_X6_isSo ml_X6_215 rfl (by decide) rfl rfl (by decide) rfl (Nat.le_of_ble_eq_true rfl) dX6_fits_80 (fun r s h => co_X6_isSo h) (fun r5 s6 => ?_)
      refine mv_if_eq 90 dX6_fits_83 (by decide) ?_ ?_
      · refine mv_iconst (v := 0) dX6_fits_90 ic_0 ?_
        refine mv_sub (lv' := [(0, .ref (mt_adr (kG K) 56)), (1, .int x1), (2, .int x2), (4, .int x4), (5, .int x5), (7, .int x7)]) [0, 1, 2, 3, 4, 6] rfl ?_
        exact vX6_fits_91 hQ (fun s0 x1 x2 x4 x5 x6 x7 => ih s0 x1 x2 x4 x5 x6 x7) s6 x1 x2 x4 x5 x7 (0 : Int32) x6
      · refine mv_iconst (v := 1) dX6_fits_86 ic_1 ?_
        refine mv_goto 91 dX6_fits_87 (by decide) ?_
        refine mv_sub (lv' := [(0, .ref (mt_adr (kG K) 56)), (1, .int x1), (2, .int x2), (4, .int x4), (5, .int x5), (7, .int x7)]) [0, 1, 2, 3, 4, 6] rfl ?_
        exact vX6_fits_91 hQ (fun s0 x1 x2 x4 x5 x6 x7 => ih s0 x1 x2 x4 x5 x6 x7) s6 x1 x2 x4 x5 x7 (1 : Int32) x6
def fX6_fits (fu : Nat) (σ : mt_St) (a1 : Int32) (a2 : Int32) : Option (Int32 × mt_St) :=
  mt_ask (fX6_isTreaty fu σ a2) fun r1 =>
  mt_ask (fX6_lacks fu σ a1 r1) fun r2 =>
  if r2 = 0 then
    mt_ask (fX6_treatyAt fu a2 (3 : Int32)) fun r3 =>
    mt_chk (mt_in r3 86) <|
    bX6_fits_43 fu fu σ a1 a2 r3 (σ 57 (Int32.toNatClampNeg r3)) (0 : Int32) (0 : Int32)
  else
    mt_call (fX6_finding fu σ r2) fun r4 s5 =>
    some (r4, s5)
set_option maxHeartbeats 4000000 in
set_option maxRecDepth 20000 in
theorem vX6_fits {K : mt_C} {fu : Nat} {σ : mt_St} {a1 : Int32} {a2 : Int32} {r : Int32} {σf : mt_St} (hQ : mt_R K (some .int) (some (.int r)) σf) : mt_V K cX6_fits RX6 8 6 σ 0 [(0, .ref (mt_adr (kG K) 56)), (1, .int a1), (2, .int a2)] [] (fX6_fits fu σ a1 a2 = some (r, σf)) := by
  unfold fX6_fits
  refine mv_aload_n 0 dX6_fits_0 rfl rfl ?_
  refine mv_iload_n 1 dX6_fits_1 rfl rfl ?_
  refine mv_aload_n 0 dX6_fits_2 rfl rfl ?_
  refine mv_iload_n 2 dX6_fits_3 rfl rfl ?_
  refine mv_cVri (As := [.int a2]) (st := [.int a1, .ref (mt_adr (kG K) 56)]) cal_X6_isTreaty ins_X6_isTreaty ml_X6_120 rfl (by decide) rfl rfl (by decide) rfl (Nat.le_of_ble_eq_true rfl) dX6_fits_4 (fun r h => co_X6_isTreaty h) (fun r1 => ?_)
  refine mv_cVri (As := [.int a1, .int r1]) (st := []) cal_X6_lacks ins_X6_lacks ml_X6_211 rfl (by decide) rfl rfl (by decide) rfl (Nat.le_of_ble_eq_true rfl) dX6_fits_7 (fun r h => co_X6_lacks h) (fun r2 => ?_)
  refine mv_istore_n (lv' := [(0, .ref (mt_adr (kG K) 56)), (1, .int a1), (2, .int a2), (3, .int r2)]) [1, 2, 3, 0] dX6_fits_10 rfl (by decide) rfl ?_
  refine mv_iload_n 3 dX6_fits_11 rfl rfl ?_
  refine mv_if_eq 21 dX6_fits_12 (by decide) ?_ ?_
  · refine mv_iload_n 2 dX6_fits_21 rfl rfl ?_
    refine mv_iconst (v := 3) dX6_fits_22 ic_3 ?_
    refine mv_cSri (As := [.int a2, .int (3 : Int32)]) (st := []) cal_X6_treatyAt sta_X6_treatyAt ml_X6_85 rfl (by decide) rfl (Nat.le_of_ble_eq_true rfl) dX6_fits_23 (fun r h => co_X6_treatyAt h) (fun r3 => ?_)
    refine mv_istore (lv' := [(0, .ref (mt_adr (kG K) 56)), (1, .int a1), (2, .int a2), (4, .int r3)]) [1, 2, 3, 0] dX6_fits_26 (by decide) rfl ?_
    refine mv_aload_n 0 dX6_fits_28 rfl rfl ?_
    refine mg_X6_0 fl_X6_9 dX6_fits_29 ?_
    refine mv_iload 3 dX6_fits_32 rfl ?_
    refine mv_iald 86 rfl rfl dX6_fits_34 ?_
    refine mv_istore (lv' := [(0, .ref (mt_adr (kG K) 56)), (1, .int a1), (2, .int a2), (4, .int r3), (5, .int (σ 57 (Int32.toNatClampNeg r3)))]) [1, 2, 3, 4, 0] dX6_fits_35 (by decide) rfl ?_
    refine mv_iconst (v := 0) dX6_fits_37 ic_0 ?_
    refine mv_istore (lv' := [(0, .ref (mt_adr (kG K) 56)), (1, .int a1), (2, .int a2), (4, .int r3), (5, .int (σ 57 (Int32.toNatClampNeg r3))), (6, .int (0 : Int32))]) [1, 2, 3, 4, 5, 0] dX6_fits_38 (by decide) rfl ?_
    refine mv_iconst (v := 0) dX6_fits_40 ic_0 ?_
    refine mv_istore (lv' := [(0, .ref (mt_adr (kG K) 56)), (1, .int a1), (2, .int a2), (4, .int r3), (5, .int (σ 57 (Int32.toNatClampNeg r3))), (6, .int (0 : Int32)), (7, .int (0 : Int32))]) [1, 2, 3, 4, 5, 6, 0] dX6_fits_41 (by decide) rfl ?_
    exact vX6_fits_43 hQ fu σ a1 a2 r3 (σ 57 (Int32.toNatClampNeg r3)) (0 : Int32) (0 : Int32)
  · refine mv_aload_n 0 dX6_fits_15 rfl rfl ?_
    refine mv_iload_n 3 dX6_fits_16 rfl rfl ?_
    refine mv_cVwi (As := [.int r2]) (st := []) cal_X6_finding ins_X6_finding ml_X6_66 rfl (by decide) rfl rfl (by decide) rfl (Nat.le_of_ble_eq_true rfl) dX6_fits_17 (fun r s h => co_X6_finding h) (fun r4 s5 => ?_)
    exact mv_iret hQ dX6_fits_20
theorem co_X6_fits {l : Launch} {G : mt_G} {fu : Nat} {σ : mt_St} {a1 : Int32} {a2 : Int32} {r : Int32} {σf : mt_St}  (h : fX6_fits fu σ a1 a2 = some (r, σf)) : mt_Con l G yX6_fits cX6_fits 8 (some .int) 6 [.ref (mt_adr G 56), .int a1, .int a2] σ (some (.int r)) σf :=
  mt_con (by decide) (Nat.le_of_ble_eq_true rfl) (fun K hl hG hQ => by subst hl; subst hG; exact fun _ => vX6_fits  hQ h)
theorem dX6_kinds_0 : decode cX6_kinds 0 = .ok (.aload_n 0, 1) := by decide +kernel
theorem dX6_kinds_1 : decode cX6_kinds 1 = .ok (.iload_n 1, 1) := by decide +kernel
theorem dX6_kinds_2 : decode cX6_kinds 2 = .ok (.aload_n 0, 1) := by decide +kernel
theorem dX6_kinds_3 : decode cX6_kinds 3 = .ok (.iload_n 2, 1) := by decide +kernel
theorem dX6_kinds_4 : decode cX6_kinds 4 = .ok (.invokevirtual 120, 3) := by decide +kernel
theorem dX6_kinds_7 : decode cX6_kinds 7 = .ok (.invokevirtual 211, 3) := by decide +kernel
theorem dX6_kinds_10 : decode cX6_kinds 10 = .ok (.istore_n 3, 1) := by decide +kernel
theorem dX6_kinds_11 : decode cX6_kinds 11 = .ok (.iload_n 3, 1) := by decide +kernel
theorem dX6_kinds_12 : decode cX6_kinds 12 = .ok (.ifCond .eq 9, 3) := by decide +kernel
theorem dX6_kinds_15 : decode cX6_kinds 15 = .ok (.aload_n 0, 1) := by decide +kernel
theorem dX6_kinds_16 : decode cX6_kinds 16 = .ok (.iload_n 3, 1) := by decide +kernel
theorem dX6_kinds_17 : decode cX6_kinds 17 = .ok (.invokevirtual 66, 3) := by decide +kernel
theorem dX6_kinds_20 : decode cX6_kinds 20 = .ok (.ireturn, 1) := by decide +kernel
theorem dX6_kinds_21 : decode cX6_kinds 21 = .ok (.iload_n 2, 1) := by decide +kernel
theorem dX6_kinds_22 : decode cX6_kinds 22 = .ok (.iconst 0, 1) := by decide +kernel
theorem dX6_kinds_23 : decode cX6_kinds 23 = .ok (.invokestatic 85, 3) := by decide +kernel
theorem dX6_kinds_26 : decode cX6_kinds 26 = .ok (.istore 4, 2) := by decide +kernel
theorem dX6_kinds_28 : decode cX6_kinds 28 = .ok (.aload_n 0, 1) := by decide +kernel
theorem dX6_kinds_29 : decode cX6_kinds 29 = .ok (.getfield 9, 3) := by decide +kernel
theorem dX6_kinds_32 : decode cX6_kinds 32 = .ok (.iload 4, 2) := by decide +kernel
theorem dX6_kinds_34 : decode cX6_kinds 34 = .ok (.iaload, 1) := by decide +kernel
theorem dX6_kinds_35 : decode cX6_kinds 35 = .ok (.istore 5, 2) := by decide +kernel
theorem dX6_kinds_37 : decode cX6_kinds 37 = .ok (.iconst 0, 1) := by decide +kernel
theorem dX6_kinds_38 : decode cX6_kinds 38 = .ok (.istore 6, 2) := by decide +kernel
theorem dX6_kinds_40 : decode cX6_kinds 40 = .ok (.iconst 0, 1) := by decide +kernel
theorem dX6_kinds_41 : decode cX6_kinds 41 = .ok (.istore 7, 2) := by decide +kernel
theorem dX6_kinds_43 : decode cX6_kinds 43 = .ok (.iload 7, 2) := by decide +kernel
theorem dX6_kinds_45 : decode cX6_kinds 45 = .ok (.bipush 6, 2) := by decide +kernel
theorem dX6_kinds_47 : decode cX6_kinds 47 = .ok (.if_icmp .gt 50, 3) := by decide +kernel
theorem dX6_kinds_50 : decode cX6_kinds 50 = .ok (.aload_n 0, 1) := by decide +kernel
theorem dX6_kinds_51 : decode cX6_kinds 51 = .ok (.getfield 9, 3) := by decide +kernel
theorem dX6_kinds_54 : decode cX6_kinds 54 = .ok (.iload 4, 2) := by decide +kernel
theorem dX6_kinds_56 : decode cX6_kinds 56 = .ok (.iload 7, 2) := by decide +kernel
theorem dX6_kinds_58 : decode cX6_kinds 58 = .ok (.iastore, 1) := by decide +kernel
theorem dX6_kinds_59 : decode cX6_kinds 59 = .ok (.iload 6, 2) := by decide +kernel
theorem dX6_kinds_61 : decode cX6_kinds 61 = .ok (.aload_n 0, 1) := by decide +kernel
theorem dX6_kinds_62 : decode cX6_kinds 62 = .ok (.iload_n 1, 1) := by decide +kernel
theorem dX6_kinds_63 : decode cX6_kinds 63 = .ok (.iload_n 2, 1) := by decide +kernel
theorem dX6_kinds_64 : decode cX6_kinds 64 = .ok (.iconst 3, 1) := by decide +kernel
theorem dX6_kinds_65 : decode cX6_kinds 65 = .ok (.invokestatic 85, 3) := by decide +kernel
theorem dX6_kinds_68 : decode cX6_kinds 68 = .ok (.aload_n 0, 1) := by decide +kernel
theorem dX6_kinds_69 : decode cX6_kinds 69 = .ok (.getfield 51, 3) := by decide +kernel
theorem dX6_kinds_72 : decode cX6_kinds 72 = .ok (.iload_n 1, 1) := by decide +kernel
theorem dX6_kinds_73 : decode cX6_kinds 73 = .ok (.iaload, 1) := by decide +kernel
theorem dX6_kinds_74 : decode cX6_kinds 74 = .ok (.invokevirtual 215, 3) := by decide +kernel
theorem dX6_kinds_77 : decode cX6_kinds 77 = .ok (.ifCond .eq 10, 3) := by decide +kernel
theorem dX6_kinds_80 : decode cX6_kinds 80 = .ok (.iconst 1, 1) := by decide +kernel
theorem dX6_kinds_81 : decode cX6_kinds 81 = .ok (.iload 7, 2) := by decide +kernel
theorem dX6_kinds_83 : decode cX6_kinds 83 = .ok (.ishl, 1) := by decide +kernel
theorem dX6_kinds_84 : decode cX6_kinds 84 = .ok (.goto 4, 3) := by decide +kernel
theorem dX6_kinds_87 : decode cX6_kinds 87 = .ok (.iconst 0, 1) := by decide +kernel
theorem dX6_kinds_88 : decode cX6_kinds 88 = .ok (.ior, 1) := by decide +kernel
theorem dX6_kinds_89 : decode cX6_kinds 89 = .ok (.istore 6, 2) := by decide +kernel
theorem dX6_kinds_91 : decode cX6_kinds 91 = .ok (.iinc 7 1, 3) := by decide +kernel
theorem dX6_kinds_94 : decode cX6_kinds 94 = .ok (.goto (-51), 3) := by decide +kernel
theorem dX6_kinds_97 : decode cX6_kinds 97 = .ok (.aload_n 0, 1) := by decide +kernel
theorem dX6_kinds_98 : decode cX6_kinds 98 = .ok (.getfield 9, 3) := by decide +kernel
theorem dX6_kinds_101 : decode cX6_kinds 101 = .ok (.iload 4, 2) := by decide +kernel
theorem dX6_kinds_103 : decode cX6_kinds 103 = .ok (.iload 5, 2) := by decide +kernel
theorem dX6_kinds_105 : decode cX6_kinds 105 = .ok (.iastore, 1) := by decide +kernel
theorem dX6_kinds_106 : decode cX6_kinds 106 = .ok (.iload 6, 2) := by decide +kernel
theorem dX6_kinds_108 : decode cX6_kinds 108 = .ok (.ireturn, 1) := by decide +kernel
def bX6_kinds_88 (fu : Nat) (k43 : mt_St → Int32 → Int32 → Int32 → Int32 → Int32 → Int32 → Option (Int32 × mt_St)) (σ : mt_St) (x1 : Int32) (x2 : Int32) (x4 : Int32) (x5 : Int32) (x7 : Int32) (y0 : Int32) (y1 : Int32) : Option (Int32 × mt_St) :=
  k43 σ x1 x2 x4 x5 (y1 ||| y0) (x7 + 1)
set_option maxHeartbeats 4000000 in
set_option maxRecDepth 20000 in
theorem vX6_kinds_88 {K : mt_C} {fu : Nat} {r : Int32} {σf : mt_St} (hQ : mt_R K (some .int) (some (.int r)) σf) {k43 : mt_St → Int32 → Int32 → Int32 → Int32 → Int32 → Int32 → Option (Int32 × mt_St)} (hk43 : ∀ (s0 : mt_St) (x1 : Int32) (x2 : Int32) (x4 : Int32) (x5 : Int32) (x6 : Int32) (x7 : Int32), mt_V K cX6_kinds RX6 8 6 s0 43 [(0, .ref (mt_adr (kG K) 56)), (1, .int x1), (2, .int x2), (4, .int x4), (5, .int x5), (6, .int x6), (7, .int x7)] [] (k43 s0 x1 x2 x4 x5 x6 x7 = some (r, σf))) : ∀ (σ : mt_St) (x1 : Int32) (x2 : Int32) (x4 : Int32) (x5 : Int32) (x7 : Int32) (y0 : Int32) (y1 : Int32), mt_V K cX6_kinds RX6 8 6 σ 88 [(0, .ref (mt_adr (kG K) 56)), (1, .int x1), (2, .int x2), (4, .int x4), (5, .int x5), (7, .int x7)] [.int y0, .int y1] (bX6_kinds_88 fu k43 σ x1 x2 x4 x5 x7 y0 y1 = some (r, σf)) := by
  intro σ x1 x2 x4 x5 x7 y0 y1
  unfold bX6_kinds_88
  refine mv_ior dX6_kinds_88 ?_
  refine mv_istore (lv' := [(0, .ref (mt_adr (kG K) 56)), (1, .int x1), (2, .int x2), (4, .int x4), (5, .int x5), (6, .int (y1 ||| y0)), (7, .int x7)]) [1, 2, 3, 4, 5, 0, 6] dX6_kinds_89 (by decide) rfl ?_
  refine mv_iinc (k0 := 6) (v := x7 + 1) (lv' := [(0, .ref (mt_adr (kG K) 56)), (1, .int x1), (2, .int x2), (4, .int x4), (5, .int x5), (6, .int (y1 ||| y0)), (7, .int (x7 + 1))]) [1, 2, 3, 4, 5, 6, 0] dX6_kinds_91 rfl (mt_inc ic_1) (by decide) rfl ?_
  refine mv_goto 43 dX6_kinds_94 (by decide) ?_
  exact hk43 σ x1 x2 x4 x5 (y1 ||| y0) (x7 + 1)
def bX6_kinds_43 (fu : Nat) : Nat → mt_St → Int32 → Int32 → Int32 → Int32 → Int32 → Int32 → Option (Int32 × mt_St)
  | 0, _, _, _, _, _, _, _ => none
  | n + 1, σ, x1, x2, x4, x5, x6, x7 =>
    if (6 : Int32) < x7 then
      mt_chk (mt_in x4 86) <|
      mt_bnd (mt_up σ 57 (Int32.toNatClampNeg x4) x5) fun s1 =>
      some (x6, s1)
    else
      mt_chk (mt_in x4 86) <|
      mt_bnd (mt_up σ 57 (Int32.toNatClampNeg x4) x7) fun s2 =>
      mt_ask (fX6_treatyAt fu x2 (3 : Int32)) fun r3 =>
      mt_chk (mt_in x1 4) <|
      mt_call (fX6_isSo fu s2 x1 r3 (s2 65 (Int32.toNatClampNeg x1))) fun r4 s5 =>
      if r4 = 0 then
        bX6_kinds_88 fu (fun s0 x1 x2 x4 x5 x6 x7 => bX6_kinds_43 fu n s0 x1 x2 x4 x5 x6 x7) s5 x1 x2 x4 x5 x7 (0 : Int32) x6
      else
        bX6_kinds_88 fu (fun s0 x1 x2 x4 x5 x6 x7 => bX6_kinds_43 fu n s0 x1 x2 x4 x5 x6 x7) s5 x1 x2 x4 x5 x7 ((1 : Int32) <<< (x7 &&& 31)) x6
set_option maxHeartbeats 4000000 in
set_option maxRecDepth 20000 in
theorem vX6_kinds_43 {K : mt_C} {fu : Nat} {r : Int32} {σf : mt_St} (hQ : mt_R K (some .int) (some (.int r)) σf) : ∀ (n : Nat) (σ : mt_St) (x1 : Int32) (x2 : Int32) (x4 : Int32) (x5 : Int32) (x6 : Int32) (x7 : Int32), mt_V K cX6_kinds RX6 8 6 σ 43 [(0, .ref (mt_adr (kG K) 56)), (1, .int x1), (2, .int x2), (4, .int x4), (5, .int x5), (6, .int x6), (7, .int x7)] [] (bX6_kinds_43 fu n σ x1 x2 x4 x5 x6 x7 = some (r, σf)) := by
  intro n
  induction n with
  | zero => intro σ x1 x2 x4 x5 x6 x7; intro hP; unfold bX6_kinds_43 at hP; cases hP
  | succ n ih =>
    intro σ x1 x2 x4 x5 x6 x7
    unfold bX6_kinds_43
    refine mv_iload 6 dX6_kinds_43 rfl ?_
    refine mv_bipush (v := 6) dX6_kinds_45 bp_6 ?_
    refine mv_icmp_gt 97 dX6_kinds_47 (by decide) ?_ ?_
    · refine mv_aload_n 0 dX6_kinds_97 rfl rfl ?_
      refine mg_X6_0 fl_X6_9 dX6_kinds_98 ?_
      refine mv_iload 3 dX6_kinds_101 rfl ?_
      refine mv_iload 4 dX6_kinds_103 rfl ?_
      refine mv_iast 86 rfl rfl dX6_kinds_105 (fun s1 => ?_)
      refine mv_iload 5 dX6_kinds_106 rfl ?_
      exact mv_iret hQ dX6_kinds_108
    · refine mv_aload_n 0 dX6_kinds_50 rfl rfl ?_
      refine mg_X6_0 fl_X6_9 dX6_kinds_51 ?_
      refine mv_iload 3 dX6_kinds_54 rfl ?_
      refine mv_iload 6 dX6_kinds_56 rfl ?_
      refine mv_iast 86 rfl rfl dX6_kinds_58 (fun s2 => ?_)
      refine mv_iload 5 dX6_kinds_59 rfl ?_
      refine mv_aload_n 0 dX6_kinds_61 rfl rfl ?_
      refine mv_iload_n 1 dX6_kinds_62 rfl rfl ?_
      refine mv_iload_n 2 dX6_kinds_63 rfl rfl ?_
      refine mv_iconst (v := 3) dX6_kinds_64 ic_3 ?_
      refine mv_cSri (As := [.int x2, .int (3 : Int32)]) (st := [.int x1, .ref (mt_adr (kG K) 56), .int x6]) cal_X6_treatyAt sta_X6_treatyAt ml_X6_85 rfl (by decide) rfl (Nat.le_of_ble_eq_true rfl) dX6_kinds_65 (fun r h => co_X6_treatyAt h) (fun r3 => ?_)
      refine mv_aload_n 0 dX6_kinds_68 rfl rfl ?_
      refine mg_X6_18 fl_X6_51 dX6_kinds_69 ?_
      refine mv_iload_n 1 dX6_kinds_72 rfl rfl ?_
      refine mv_iald 4 rfl rfl dX6_kinds_73 ?_
      refine mv_cVwi (As := [.int x1, .int r3, .int (s2 65 (Int32.toNatClampNeg x1))]) (st := [.int x6]) cal_X6_isSo ins_X6_isSo ml_X6_215 rfl (by decide) rfl rfl (by decide) rfl (Nat.le_of_ble_eq_true rfl) dX6_kinds_74 (fun r s h => co_X6_isSo h) (fun r4 s5 => ?_)
      refine mv_if_eq 87 dX6_kinds_77 (by decide) ?_ ?_
      · refine mv_iconst (v := 0) dX6_kinds_87 ic_0 ?_
        refine mv_sub (lv' := [(0, .ref (mt_adr (kG K) 56)), (1, .int x1), (2, .int x2), (4, .int x4), (5, .int x5), (7, .int x7)]) [0, 1, 2, 3, 4, 6] rfl ?_
        exact vX6_kinds_88 hQ (fun s0 x1 x2 x4 x5 x6 x7 => ih s0 x1 x2 x4 x5 x6 x7) s5 x1 x2 x4 x5 x7 (0 : Int32) x6
      · refine mv_iconst (v := 1) dX6_kinds_80 ic_1 ?_
        refine mv_iload 6 dX6_kinds_81 rfl ?_
        refine mv_ishl dX6_kinds_83 ?_
        refine mv_goto 88 dX6_kinds_84 (by decide) ?_
        refine mv_sub (lv' := [(0, .ref (mt_adr (kG K) 56)), (1, .int x1), (2, .int x2), (4, .int x4), (5, .int x5), (7, .int x7)]) [0, 1, 2, 3, 4, 6] rfl ?_
        exact vX6_kinds_88 hQ (fun s0 x1 x2 x4 x5 x6 x7 => ih s0 x1 x2 x4 x5 x6 x7) s5 x1 x2 x4 x5 x7 ((1 : Int32) <<< (x7 &&& 31)) x6
def fX6_kinds (fu : Nat) (σ : mt_St) (a1 : Int32) (a2 : Int32) : Option (Int32 × mt_St) :=
  mt_ask (fX6_isTreaty fu σ a2) fun r1 =>
  mt_ask (fX6_lacks fu σ a1 r1) fun r2 =>
  if r2 = 0 then
    mt_ask (fX6_treatyAt fu a2 (0 : Int32)) fun r3 =>
    mt_chk (mt_in r3 86) <|
    bX6_kinds_43 fu fu σ a1 a2 r3 (σ 57 (Int32.toNatClampNeg r3)) (0 : Int32) (0 : Int32)
  else
    mt_call (fX6_finding fu σ r2) fun r4 s5 =>
    some (r4, s5)
set_option maxHeartbeats 4000000 in
set_option maxRecDepth 20000 in
theorem vX6_kinds {K : mt_C} {fu : Nat} {σ : mt_St} {a1 : Int32} {a2 : Int32} {r : Int32} {σf : mt_St} (hQ : mt_R K (some .int) (some (.int r)) σf) : mt_V K cX6_kinds RX6 8 6 σ 0 [(0, .ref (mt_adr (kG K) 56)), (1, .int a1), (2, .int a2)] [] (fX6_kinds fu σ a1 a2 = some (r, σf)) := by
  unfold fX6_kinds
  refine mv_aload_n 0 dX6_kinds_0 rfl rfl ?_
  refine mv_iload_n 1 dX6_kinds_1 rfl rfl ?_
  refine mv_aload_n 0 dX6_kinds_2 rfl rfl ?_
  refine mv_iload_n 2 dX6_kinds_3 rfl rfl ?_
  refine mv_cVri (As := [.int a2]) (st := [.int a1, .ref (mt_adr (kG K) 56)]) cal_X6_isTreaty ins_X6_isTreaty ml_X6_120 rfl (by decide) rfl rfl (by decide) rfl (Nat.le_of_ble_eq_true rfl) dX6_kinds_4 (fun r h => co_X6_isTreaty h) (fun r1 => ?_)
  refine mv_cVri (As := [.int a1, .int r1]) (st := []) cal_X6_lacks ins_X6_lacks ml_X6_211 rfl (by decide) rfl rfl (by decide) rfl (Nat.le_of_ble_eq_true rfl) dX6_kinds_7 (fun r h => co_X6_lacks h) (fun r2 => ?_)
  refine mv_istore_n (lv' := [(0, .ref (mt_adr (kG K) 56)), (1, .int a1), (2, .int a2), (3, .int r2)]) [1, 2, 3, 0] dX6_kinds_10 rfl (by decide) rfl ?_
  refine mv_iload_n 3 dX6_kinds_11 rfl rfl ?_
  refine mv_if_eq 21 dX6_kinds_12 (by decide) ?_ ?_
  · refine mv_iload_n 2 dX6_kinds_21 rfl rfl ?_
    refine mv_iconst (v := 0) dX6_kinds_22 ic_0 ?_
    refine mv_cSri (As := [.int a2, .int (0 : Int32)]) (st := []) cal_X6_treatyAt sta_X6_treatyAt ml_X6_85 rfl (by decide) rfl (Nat.le_of_ble_eq_true rfl) dX6_kinds_23 (fun r h => co_X6_treatyAt h) (fun r3 => ?_)
    refine mv_istore (lv' := [(0, .ref (mt_adr (kG K) 56)), (1, .int a1), (2, .int a2), (4, .int r3)]) [1, 2, 3, 0] dX6_kinds_26 (by decide) rfl ?_
    refine mv_aload_n 0 dX6_kinds_28 rfl rfl ?_
    refine mg_X6_0 fl_X6_9 dX6_kinds_29 ?_
    refine mv_iload 3 dX6_kinds_32 rfl ?_
    refine mv_iald 86 rfl rfl dX6_kinds_34 ?_
    refine mv_istore (lv' := [(0, .ref (mt_adr (kG K) 56)), (1, .int a1), (2, .int a2), (4, .int r3), (5, .int (σ 57 (Int32.toNatClampNeg r3)))]) [1, 2, 3, 4, 0] dX6_kinds_35 (by decide) rfl ?_
    refine mv_iconst (v := 0) dX6_kinds_37 ic_0 ?_
    refine mv_istore (lv' := [(0, .ref (mt_adr (kG K) 56)), (1, .int a1), (2, .int a2), (4, .int r3), (5, .int (σ 57 (Int32.toNatClampNeg r3))), (6, .int (0 : Int32))]) [1, 2, 3, 4, 5, 0] dX6_kinds_38 (by decide) rfl ?_
    refine mv_iconst (v := 0) dX6_kinds_40 ic_0 ?_
    refine mv_istore (lv' := [(0, .ref (mt_adr (kG K) 56)), (1, .int a1), (2, .int a2), (4, .int r3), (5, .int (σ 57 (Int32.toNatClampNeg r3))), (6, .int (0 : Int32)), (7, .int (0 : Int32))]) [1, 2, 3, 4, 5, 6, 0] dX6_kinds_41 (by decide) rfl ?_
    exact vX6_kinds_43 hQ fu σ a1 a2 r3 (σ 57 (Int32.toNatClampNeg r3)) (0 : Int32) (0 : Int32)
  · refine mv_aload_n 0 dX6_kinds_15 rfl rfl ?_
    refine mv_iload_n 3 dX6_kinds_16 rfl rfl ?_
    refine mv_cVwi (As := [.int r2]) (st := []) cal_X6_finding ins_X6_finding ml_X6_66 rfl (by decide) rfl rfl (by decide) rfl (Nat.le_of_ble_eq_true rfl) dX6_kinds_17 (fun r s h => co_X6_finding h) (fun r4 s5 => ?_)
    exact mv_iret hQ dX6_kinds_20
theorem co_X6_kinds {l : Launch} {G : mt_G} {fu : Nat} {σ : mt_St} {a1 : Int32} {a2 : Int32} {r : Int32} {σf : mt_St}  (h : fX6_kinds fu σ a1 a2 = some (r, σf)) : mt_Con l G yX6_kinds cX6_kinds 8 (some .int) 6 [.ref (mt_adr G 56), .int a1, .int a2] σ (some (.int r)) σf :=
  mt_con (by decide) (Nat.le_of_ble_eq_true rfl) (fun K hl hG hQ => by subst hl; subst hG; exact fun _ => vX6_kinds  hQ h)
theorem dX6_drawn_0 : decode cX6_drawn 0 = .ok (.aload_n 0, 1) := by decide +kernel
theorem dX6_drawn_1 : decode cX6_drawn 1 = .ok (.getfield 9, 3) := by decide +kernel
theorem dX6_drawn_4 : decode cX6_drawn 4 = .ok (.iconst 2, 1) := by decide +kernel
theorem dX6_drawn_5 : decode cX6_drawn 5 = .ok (.aload_n 0, 1) := by decide +kernel
theorem dX6_drawn_6 : decode cX6_drawn 6 = .ok (.getfield 9, 3) := by decide +kernel
theorem dX6_drawn_9 : decode cX6_drawn 9 = .ok (.iconst 2, 1) := by decide +kernel
theorem dX6_drawn_10 : decode cX6_drawn 10 = .ok (.iaload, 1) := by decide +kernel
theorem dX6_drawn_11 : decode cX6_drawn 11 = .ok (.ldc 218, 2) := by decide +kernel
theorem dX6_drawn_13 : decode cX6_drawn 13 = .ok (.imul, 1) := by decide +kernel
theorem dX6_drawn_14 : decode cX6_drawn 14 = .ok (.sipush 12345, 3) := by decide +kernel
theorem dX6_drawn_17 : decode cX6_drawn 17 = .ok (.iadd, 1) := by decide +kernel
theorem dX6_drawn_18 : decode cX6_drawn 18 = .ok (.iastore, 1) := by decide +kernel
theorem dX6_drawn_19 : decode cX6_drawn 19 = .ok (.aload_n 0, 1) := by decide +kernel
theorem dX6_drawn_20 : decode cX6_drawn 20 = .ok (.getfield 9, 3) := by decide +kernel
theorem dX6_drawn_23 : decode cX6_drawn 23 = .ok (.iconst 2, 1) := by decide +kernel
theorem dX6_drawn_24 : decode cX6_drawn 24 = .ok (.iaload, 1) := by decide +kernel
theorem dX6_drawn_25 : decode cX6_drawn 25 = .ok (.bipush 8, 2) := by decide +kernel
theorem dX6_drawn_27 : decode cX6_drawn 27 = .ok (.iushr, 1) := by decide +kernel
theorem dX6_drawn_28 : decode cX6_drawn 28 = .ok (.ireturn, 1) := by decide +kernel
def fX6_drawn (fu : Nat) (σ : mt_St) : Option (Int32 × mt_St) :=
  mt_bnd (mt_up σ 57 2 (((σ 57 2) * (1103515245 : Int32)) + (12345 : Int32))) fun s1 =>
  some (((Int32.toUInt32 (s1 57 2) >>> (Int32.toUInt32 (8 : Int32) &&& Int32.toUInt32 31)).toInt32), s1)
set_option maxHeartbeats 4000000 in
set_option maxRecDepth 20000 in
theorem vX6_drawn {K : mt_C} {fu : Nat} {σ : mt_St} {r : Int32} {σf : mt_St} (hQ : mt_R K (some .int) (some (.int r)) σf) : mt_V K cX6_drawn RX6 1 0 σ 0 [(0, .ref (mt_adr (kG K) 56))] [] (fX6_drawn fu σ = some (r, σf)) := by
  unfold fX6_drawn
  refine mv_aload_n 0 dX6_drawn_0 rfl rfl ?_
  refine mg_X6_0 fl_X6_9 dX6_drawn_1 ?_
  refine mv_iconst (v := 2) dX6_drawn_4 ic_2 ?_
  refine mv_aload_n 0 dX6_drawn_5 rfl rfl ?_
  refine mg_X6_0 fl_X6_9 dX6_drawn_6 ?_
  refine mv_iconst (v := 2) dX6_drawn_9 ic_2 ?_
  refine mv_ialdk 86 2 rfl rfl (by decide) (by decide) dX6_drawn_10 ?_
  refine mv_ldc kc_X6_218 dX6_drawn_11 ?_
  refine mv_imul dX6_drawn_13 ?_
  refine mv_sipush (v := 12345) dX6_drawn_14 sp_12345 ?_
  refine mv_iadd dX6_drawn_17 ?_
  refine mv_iastk 86 2 rfl rfl (by decide) (by decide) dX6_drawn_18 (fun s1 => ?_)
  refine mv_aload_n 0 dX6_drawn_19 rfl rfl ?_
  refine mg_X6_0 fl_X6_9 dX6_drawn_20 ?_
  refine mv_iconst (v := 2) dX6_drawn_23 ic_2 ?_
  refine mv_ialdk 86 2 rfl rfl (by decide) (by decide) dX6_drawn_24 ?_
  refine mv_bipush (v := 8) dX6_drawn_25 bp_8 ?_
  refine mv_iushr dX6_drawn_27 ?_
  exact mv_iret hQ dX6_drawn_28
theorem co_X6_drawn {l : Launch} {G : mt_G} {fu : Nat} {σ : mt_St} {r : Int32} {σf : mt_St}  (h : fX6_drawn fu σ = some (r, σf)) : mt_Con l G yX6_drawn cX6_drawn 1 (some .int) 0 [.ref (mt_adr G 56)] σ (some (.int r)) σf :=
  mt_con (by decide) (Nat.le_of_ble_eq_true rfl) (fun K hl hG hQ => by subst hl; subst hG; exact fun _ => vX6_drawn  hQ h)
theorem dX6_wakings_0 : decode cX6_wakings 0 = .ok (.iload_n 1, 1) := by decide +kernel
theorem dX6_wakings_1 : decode cX6_wakings 1 = .ok (.iconst 1, 1) := by decide +kernel
theorem dX6_wakings_2 : decode cX6_wakings 2 = .ok (.bipush 20, 2) := by decide +kernel
theorem dX6_wakings_4 : decode cX6_wakings 4 = .ok (.invokestatic 70, 3) := by decide +kernel
theorem dX6_wakings_7 : decode cX6_wakings 7 = .ok (.ifCond .ne 10, 3) := by decide +kernel
theorem dX6_wakings_10 : decode cX6_wakings 10 = .ok (.aload_n 0, 1) := by decide +kernel
theorem dX6_wakings_11 : decode cX6_wakings 11 = .ok (.ldc 60, 2) := by decide +kernel
theorem dX6_wakings_13 : decode cX6_wakings 13 = .ok (.invokevirtual 66, 3) := by decide +kernel
theorem dX6_wakings_16 : decode cX6_wakings 16 = .ok (.ireturn, 1) := by decide +kernel
theorem dX6_wakings_17 : decode cX6_wakings 17 = .ok (.aload_n 0, 1) := by decide +kernel
theorem dX6_wakings_18 : decode cX6_wakings 18 = .ok (.getfield 9, 3) := by decide +kernel
theorem dX6_wakings_21 : decode cX6_wakings 21 = .ok (.iconst 0, 1) := by decide +kernel
theorem dX6_wakings_22 : decode cX6_wakings 22 = .ok (.iaload, 1) := by decide +kernel
theorem dX6_wakings_23 : decode cX6_wakings 23 = .ok (.iload_n 1, 1) := by decide +kernel
theorem dX6_wakings_24 : decode cX6_wakings 24 = .ok (.iadd, 1) := by decide +kernel
theorem dX6_wakings_25 : decode cX6_wakings 25 = .ok (.ldc 149, 2) := by decide +kernel
theorem dX6_wakings_27 : decode cX6_wakings 27 = .ok (.if_icmp .le 10, 3) := by decide +kernel
theorem dX6_wakings_30 : decode cX6_wakings 30 = .ok (.aload_n 0, 1) := by decide +kernel
theorem dX6_wakings_31 : decode cX6_wakings 31 = .ok (.ldc 163, 2) := by decide +kernel
theorem dX6_wakings_33 : decode cX6_wakings 33 = .ok (.invokevirtual 66, 3) := by decide +kernel
theorem dX6_wakings_36 : decode cX6_wakings 36 = .ok (.ireturn, 1) := by decide +kernel
theorem dX6_wakings_37 : decode cX6_wakings 37 = .ok (.iconst 0, 1) := by decide +kernel
theorem dX6_wakings_38 : decode cX6_wakings 38 = .ok (.istore_n 2, 1) := by decide +kernel
theorem dX6_wakings_39 : decode cX6_wakings 39 = .ok (.iload_n 2, 1) := by decide +kernel
theorem dX6_wakings_40 : decode cX6_wakings 40 = .ok (.iload_n 1, 1) := by decide +kernel
theorem dX6_wakings_41 : decode cX6_wakings 41 = .ok (.if_icmp .ge 57, 3) := by decide +kernel
theorem dX6_wakings_44 : decode cX6_wakings 44 = .ok (.aload_n 0, 1) := by decide +kernel
theorem dX6_wakings_45 : decode cX6_wakings 45 = .ok (.getfield 9, 3) := by decide +kernel
theorem dX6_wakings_48 : decode cX6_wakings 48 = .ok (.bipush 6, 2) := by decide +kernel
theorem dX6_wakings_50 : decode cX6_wakings 50 = .ok (.aload_n 0, 1) := by decide +kernel
theorem dX6_wakings_51 : decode cX6_wakings 51 = .ok (.getfield 9, 3) := by decide +kernel
theorem dX6_wakings_54 : decode cX6_wakings 54 = .ok (.iconst 0, 1) := by decide +kernel
theorem dX6_wakings_55 : decode cX6_wakings 55 = .ok (.iaload, 1) := by decide +kernel
theorem dX6_wakings_56 : decode cX6_wakings 56 = .ok (.bipush 6, 2) := by decide +kernel
theorem dX6_wakings_58 : decode cX6_wakings 58 = .ok (.irem, 1) := by decide +kernel
theorem dX6_wakings_59 : decode cX6_wakings 59 = .ok (.iadd, 1) := by decide +kernel
theorem dX6_wakings_60 : decode cX6_wakings 60 = .ok (.aload_n 0, 1) := by decide +kernel
theorem dX6_wakings_61 : decode cX6_wakings 61 = .ok (.invokevirtual 219, 3) := by decide +kernel
theorem dX6_wakings_64 : decode cX6_wakings 64 = .ok (.bipush 13, 2) := by decide +kernel
theorem dX6_wakings_66 : decode cX6_wakings 66 = .ok (.irem, 1) := by decide +kernel
theorem dX6_wakings_67 : decode cX6_wakings 67 = .ok (.iastore, 1) := by decide +kernel
theorem dX6_wakings_68 : decode cX6_wakings 68 = .ok (.aload_n 0, 1) := by decide +kernel
theorem dX6_wakings_69 : decode cX6_wakings 69 = .ok (.invokevirtual 219, 3) := by decide +kernel
theorem dX6_wakings_72 : decode cX6_wakings 72 = .ok (.bipush 12, 2) := by decide +kernel
theorem dX6_wakings_74 : decode cX6_wakings 74 = .ok (.irem, 1) := by decide +kernel
theorem dX6_wakings_75 : decode cX6_wakings 75 = .ok (.istore_n 3, 1) := by decide +kernel
theorem dX6_wakings_76 : decode cX6_wakings 76 = .ok (.aload_n 0, 1) := by decide +kernel
theorem dX6_wakings_77 : decode cX6_wakings 77 = .ok (.getfield 9, 3) := by decide +kernel
theorem dX6_wakings_80 : decode cX6_wakings 80 = .ok (.iconst 4, 1) := by decide +kernel
theorem dX6_wakings_81 : decode cX6_wakings 81 = .ok (.dup2, 1) := by decide +kernel
theorem dX6_wakings_82 : decode cX6_wakings 82 = .ok (.iaload, 1) := by decide +kernel
theorem dX6_wakings_83 : decode cX6_wakings 83 = .ok (.iconst 1, 1) := by decide +kernel
theorem dX6_wakings_84 : decode cX6_wakings 84 = .ok (.iload_n 3, 1) := by decide +kernel
theorem dX6_wakings_85 : decode cX6_wakings 85 = .ok (.ishl, 1) := by decide +kernel
theorem dX6_wakings_86 : decode cX6_wakings 86 = .ok (.ixor, 1) := by decide +kernel
theorem dX6_wakings_87 : decode cX6_wakings 87 = .ok (.iastore, 1) := by decide +kernel
theorem dX6_wakings_88 : decode cX6_wakings 88 = .ok (.aload_n 0, 1) := by decide +kernel
theorem dX6_wakings_89 : decode cX6_wakings 89 = .ok (.invokevirtual 160, 3) := by decide +kernel
theorem dX6_wakings_92 : decode cX6_wakings 92 = .ok (.iinc 2 1, 3) := by decide +kernel
theorem dX6_wakings_95 : decode cX6_wakings 95 = .ok (.goto (-56), 3) := by decide +kernel
theorem dX6_wakings_98 : decode cX6_wakings 98 = .ok (.aload_n 0, 1) := by decide +kernel
theorem dX6_wakings_99 : decode cX6_wakings 99 = .ok (.invokevirtual 167, 3) := by decide +kernel
theorem dX6_wakings_102 : decode cX6_wakings 102 = .ok (.ireturn, 1) := by decide +kernel
def bX6_wakings_39 (fu : Nat) : Nat → mt_St → Int32 → Int32 → Option (Int32 × mt_St)
  | 0, _, _, _ => none
  | n + 1, σ, x1, x2 =>
    if x1 ≤ x2 then
      mt_ask (fX6_inForce fu σ) fun r1 =>
      some (r1, σ)
    else
      mt_call (fX6_drawn fu σ) fun r2 s3 =>
      mt_chk (mt_in ((6 : Int32) + ((σ 57 0) - (σ 57 0) / (6 : Int32) * (6 : Int32))) 86) <|
      mt_bnd (mt_up s3 57 (Int32.toNatClampNeg ((6 : Int32) + ((σ 57 0) - (σ 57 0) / (6 : Int32) * (6 : Int32)))) (r2 - r2 / (13 : Int32) * (13 : Int32))) fun s4 =>
      mt_call (fX6_drawn fu s4) fun r5 s6 =>
      mt_bnd (mt_up s6 57 4 ((s6 57 4) ^^^ ((1 : Int32) <<< ((r5 - r5 / (12 : Int32) * (12 : Int32)) &&& 31)))) fun s7 =>
      mt_call (fX6_year fu s7) fun _ s9 =>
      bX6_wakings_39 fu n s9 x1 (x2 + 1)
set_option maxHeartbeats 4000000 in
set_option maxRecDepth 20000 in
theorem vX6_wakings_39 {K : mt_C} {fu : Nat} {r : Int32} {σf : mt_St} (hQ : mt_R K (some .int) (some (.int r)) σf) : ∀ (n : Nat) (σ : mt_St) (x1 : Int32) (x2 : Int32), mt_V K cX6_wakings RX6 4 5 σ 39 [(0, .ref (mt_adr (kG K) 56)), (1, .int x1), (2, .int x2)] [] (bX6_wakings_39 fu n σ x1 x2 = some (r, σf)) := by
  intro n
  induction n with
  | zero => intro σ x1 x2; intro hP; unfold bX6_wakings_39 at hP; cases hP
  | succ n ih =>
    intro σ x1 x2
    unfold bX6_wakings_39
    refine mv_iload_n 2 dX6_wakings_39 rfl rfl ?_
    refine mv_iload_n 1 dX6_wakings_40 rfl rfl ?_
    refine mv_icmp_ge 98 dX6_wakings_41 (by decide) ?_ ?_
    · refine mv_aload_n 0 dX6_wakings_98 rfl rfl ?_
      refine mv_cVri (As := []) (st := []) cal_X6_inForce ins_X6_inForce ml_X6_167 rfl (by decide) rfl rfl (by decide) rfl (Nat.le_of_ble_eq_true rfl) dX6_wakings_99 (fun r h => co_X6_inForce h) (fun r1 => ?_)
      exact mv_iret hQ dX6_wakings_102
    · refine mv_aload_n 0 dX6_wakings_44 rfl rfl ?_
      refine mg_X6_0 fl_X6_9 dX6_wakings_45 ?_
      refine mv_bipush (v := 6) dX6_wakings_48 bp_6 ?_
      refine mv_aload_n 0 dX6_wakings_50 rfl rfl ?_
      refine mg_X6_0 fl_X6_9 dX6_wakings_51 ?_
      refine mv_iconst (v := 0) dX6_wakings_54 ic_0 ?_
      refine mv_ialdk 86 0 rfl rfl (by decide) (by decide) dX6_wakings_55 ?_
      refine mv_bipush (v := 6) dX6_wakings_56 bp_6 ?_
      refine mv_irem dX6_wakings_58 (by decide) ?_
      refine mv_iadd dX6_wakings_59 ?_
      refine mv_aload_n 0 dX6_wakings_60 rfl rfl ?_
      refine mv_cVwi (As := []) (st := [.int ((6 : Int32) + ((σ 57 0) - (σ 57 0) / (6 : Int32) * (6 : Int32))), .ref (mt_adr (kG K) 57)]) cal_X6_drawn ins_X6_drawn ml_X6_219 rfl (by decide) rfl rfl (by decide) rfl (Nat.le_of_ble_eq_true rfl) dX6_wakings_61 (fun r s h => co_X6_drawn h) (fun r2 s3 => ?_)
      refine mv_bipush (v := 13) dX6_wakings_64 bp_13 ?_
      refine mv_irem dX6_wakings_66 (by decide) ?_
      refine mv_iast 86 rfl rfl dX6_wakings_67 (fun s4 => ?_)
      refine mv_aload_n 0 dX6_wakings_68 rfl rfl ?_
      refine mv_cVwi (As := []) (st := []) cal_X6_drawn ins_X6_drawn ml_X6_219 rfl (by decide) rfl rfl (by decide) rfl (Nat.le_of_ble_eq_true rfl) dX6_wakings_69 (fun r s h => co_X6_drawn h) (fun r5 s6 => ?_)
      refine mv_bipush (v := 12) dX6_wakings_72 bp_12 ?_
      refine mv_irem dX6_wakings_74 (by decide) ?_
      refine mv_istore_n (lv' := [(0, .ref (mt_adr (kG K) 56)), (1, .int x1), (2, .int x2), (3, .int (r5 - r5 / (12 : Int32) * (12 : Int32)))]) [1, 2, 3, 0] dX6_wakings_75 rfl (by decide) rfl ?_
      refine mv_aload_n 0 dX6_wakings_76 rfl rfl ?_
      refine mg_X6_0 fl_X6_9 dX6_wakings_77 ?_
      refine mv_iconst (v := 4) dX6_wakings_80 ic_4 ?_
      refine mv_dup2 dX6_wakings_81 rfl rfl ?_
      refine mv_ialdk 86 4 rfl rfl (by decide) (by decide) dX6_wakings_82 ?_
      refine mv_iconst (v := 1) dX6_wakings_83 ic_1 ?_
      refine mv_iload_n 3 dX6_wakings_84 rfl rfl ?_
      refine mv_ishl dX6_wakings_85 ?_
      refine mv_ixor dX6_wakings_86 ?_
      refine mv_iastk 86 4 rfl rfl (by decide) (by decide) dX6_wakings_87 (fun s7 => ?_)
      refine mv_aload_n 0 dX6_wakings_88 rfl rfl ?_
      refine mv_cVwv (As := []) (st := []) cal_X6_year ins_X6_year ml_X6_160 rfl (by decide) rfl rfl (by decide) rfl (Nat.le_of_ble_eq_true rfl) dX6_wakings_89 (fun r s h => co_X6_year h) (fun r8 s9 => ?_)
      refine mv_iinc (k0 := 2) (v := x2 + 1) (lv' := [(0, .ref (mt_adr (kG K) 56)), (1, .int x1), (2, .int (x2 + 1))]) [1, 2, 0] dX6_wakings_92 rfl (mt_inc ic_1) (by decide) rfl ?_
      refine mv_goto 39 dX6_wakings_95 (by decide) ?_
      exact ih s9 x1 (x2 + 1)
def fX6_wakings (fu : Nat) (σ : mt_St) (a1 : Int32) : Option (Int32 × mt_St) :=
  mt_ask (fX6_within fu a1 (1 : Int32) (20 : Int32)) fun r1 =>
  if r1 = 0 then
    mt_call (fX6_finding fu σ (-1000001 : Int32)) fun r4 s5 =>
    some (r4, s5)
  else
    if ((σ 57 0) + a1) ≤ (99999 : Int32) then
      bX6_wakings_39 fu fu σ a1 (0 : Int32)
    else
      mt_call (fX6_finding fu σ (-1000005 : Int32)) fun r2 s3 =>
      some (r2, s3)
set_option maxHeartbeats 4000000 in
set_option maxRecDepth 20000 in
theorem vX6_wakings {K : mt_C} {fu : Nat} {σ : mt_St} {a1 : Int32} {r : Int32} {σf : mt_St} (hQ : mt_R K (some .int) (some (.int r)) σf) : mt_V K cX6_wakings RX6 4 5 σ 0 [(0, .ref (mt_adr (kG K) 56)), (1, .int a1)] [] (fX6_wakings fu σ a1 = some (r, σf)) := by
  unfold fX6_wakings
  refine mv_iload_n 1 dX6_wakings_0 rfl rfl ?_
  refine mv_iconst (v := 1) dX6_wakings_1 ic_1 ?_
  refine mv_bipush (v := 20) dX6_wakings_2 bp_20 ?_
  refine mv_cSri (As := [.int a1, .int (1 : Int32), .int (20 : Int32)]) (st := []) cal_X6_within sta_X6_within ml_X6_70 rfl (by decide) rfl (Nat.le_of_ble_eq_true rfl) dX6_wakings_4 (fun r h => co_X6_within h) (fun r1 => ?_)
  refine mv_if_ne 17 dX6_wakings_7 (by decide) ?_ ?_
  · refine mv_aload_n 0 dX6_wakings_17 rfl rfl ?_
    refine mg_X6_0 fl_X6_9 dX6_wakings_18 ?_
    refine mv_iconst (v := 0) dX6_wakings_21 ic_0 ?_
    refine mv_ialdk 86 0 rfl rfl (by decide) (by decide) dX6_wakings_22 ?_
    refine mv_iload_n 1 dX6_wakings_23 rfl rfl ?_
    refine mv_iadd dX6_wakings_24 ?_
    refine mv_ldc kc_X6_149 dX6_wakings_25 ?_
    refine mv_icmp_le 37 dX6_wakings_27 (by decide) ?_ ?_
    · refine mv_iconst (v := 0) dX6_wakings_37 ic_0 ?_
      refine mv_istore_n (lv' := [(0, .ref (mt_adr (kG K) 56)), (1, .int a1), (2, .int (0 : Int32))]) [1, 2, 0] dX6_wakings_38 rfl (by decide) rfl ?_
      exact vX6_wakings_39 hQ fu σ a1 (0 : Int32)
    · refine mv_aload_n 0 dX6_wakings_30 rfl rfl ?_
      refine mv_ldc kc_X6_163 dX6_wakings_31 ?_
      refine mv_cVwi (As := [.int (-1000005 : Int32)]) (st := []) cal_X6_finding ins_X6_finding ml_X6_66 rfl (by decide) rfl rfl (by decide) rfl (Nat.le_of_ble_eq_true rfl) dX6_wakings_33 (fun r s h => co_X6_finding h) (fun r2 s3 => ?_)
      exact mv_iret hQ dX6_wakings_36
  · refine mv_aload_n 0 dX6_wakings_10 rfl rfl ?_
    refine mv_ldc kc_X6_60 dX6_wakings_11 ?_
    refine mv_cVwi (As := [.int (-1000001 : Int32)]) (st := []) cal_X6_finding ins_X6_finding ml_X6_66 rfl (by decide) rfl rfl (by decide) rfl (Nat.le_of_ble_eq_true rfl) dX6_wakings_13 (fun r s h => co_X6_finding h) (fun r4 s5 => ?_)
    exact mv_iret hQ dX6_wakings_16
theorem co_X6_wakings {l : Launch} {G : mt_G} {fu : Nat} {σ : mt_St} {a1 : Int32} {r : Int32} {σf : mt_St}  (h : fX6_wakings fu σ a1 = some (r, σf)) : mt_Con l G yX6_wakings cX6_wakings 4 (some .int) 5 [.ref (mt_adr G 56), .int a1] σ (some (.int r)) σf :=
  mt_con (by decide) (Nat.le_of_ble_eq_true rfl) (fun K hl hG hQ => by subst hl; subst hG; exact fun _ => vX6_wakings  hQ h)
theorem dX6_odds_0 : decode cX6_odds 0 = .ok (.aload_n 0, 1) := by decide +kernel
theorem dX6_odds_1 : decode cX6_odds 1 = .ok (.iload_n 1, 1) := by decide +kernel
theorem dX6_odds_2 : decode cX6_odds 2 = .ok (.invokevirtual 120, 3) := by decide +kernel
theorem dX6_odds_5 : decode cX6_odds 5 = .ok (.ifCond .eq 22, 3) := by decide +kernel
theorem dX6_odds_8 : decode cX6_odds 8 = .ok (.iload_n 2, 1) := by decide +kernel
theorem dX6_odds_9 : decode cX6_odds 9 = .ok (.iconst 0, 1) := by decide +kernel
theorem dX6_odds_10 : decode cX6_odds 10 = .ok (.bipush 17, 2) := by decide +kernel
theorem dX6_odds_12 : decode cX6_odds 12 = .ok (.invokestatic 70, 3) := by decide +kernel
theorem dX6_odds_15 : decode cX6_odds 15 = .ok (.ifCond .eq 12, 3) := by decide +kernel
theorem dX6_odds_18 : decode cX6_odds 18 = .ok (.iload_n 3, 1) := by decide +kernel
theorem dX6_odds_19 : decode cX6_odds 19 = .ok (.iconst 0, 1) := by decide +kernel
theorem dX6_odds_20 : decode cX6_odds 20 = .ok (.iconst 1, 1) := by decide +kernel
theorem dX6_odds_21 : decode cX6_odds 21 = .ok (.invokestatic 70, 3) := by decide +kernel
theorem dX6_odds_24 : decode cX6_odds 24 = .ok (.ifCond .ne 11, 3) := by decide +kernel
theorem dX6_odds_27 : decode cX6_odds 27 = .ok (.aload_n 0, 1) := by decide +kernel
theorem dX6_odds_28 : decode cX6_odds 28 = .ok (.ldc 60, 2) := by decide +kernel
theorem dX6_odds_30 : decode cX6_odds 30 = .ok (.invokevirtual 66, 3) := by decide +kernel
theorem dX6_odds_33 : decode cX6_odds 33 = .ok (.i2l, 1) := by decide +kernel
theorem dX6_odds_34 : decode cX6_odds 34 = .ok (.lreturn, 1) := by decide +kernel
theorem dX6_odds_35 : decode cX6_odds 35 = .ok (.bipush 12, 2) := by decide +kernel
theorem dX6_odds_37 : decode cX6_odds 37 = .ok (.aload_n 0, 1) := by decide +kernel
theorem dX6_odds_38 : decode cX6_odds 38 = .ok (.iload_n 1, 1) := by decide +kernel
theorem dX6_odds_39 : decode cX6_odds 39 = .ok (.iconst 3, 1) := by decide +kernel
theorem dX6_odds_40 : decode cX6_odds 40 = .ok (.invokevirtual 99, 3) := by decide +kernel
theorem dX6_odds_43 : decode cX6_odds 43 = .ok (.invokestatic 102, 3) := by decide +kernel
theorem dX6_odds_46 : decode cX6_odds 46 = .ok (.isub, 1) := by decide +kernel
theorem dX6_odds_47 : decode cX6_odds 47 = .ok (.istore 4, 2) := by decide +kernel
theorem dX6_odds_49 : decode cX6_odds 49 = .ok (.bipush 12, 2) := by decide +kernel
theorem dX6_odds_51 : decode cX6_odds 51 = .ok (.istore 5, 2) := by decide +kernel
theorem dX6_odds_53 : decode cX6_odds 53 = .ok (.iload 4, 2) := by decide +kernel
theorem dX6_odds_55 : decode cX6_odds 55 = .ok (.istore 6, 2) := by decide +kernel
theorem dX6_odds_57 : decode cX6_odds 57 = .ok (.iload 6, 2) := by decide +kernel
theorem dX6_odds_59 : decode cX6_odds 59 = .ok (.ifCond .eq 21, 3) := by decide +kernel
theorem dX6_odds_62 : decode cX6_odds 62 = .ok (.iload 5, 2) := by decide +kernel
theorem dX6_odds_64 : decode cX6_odds 64 = .ok (.iload 6, 2) := by decide +kernel
theorem dX6_odds_66 : decode cX6_odds 66 = .ok (.irem, 1) := by decide +kernel
theorem dX6_odds_67 : decode cX6_odds 67 = .ok (.istore 7, 2) := by decide +kernel
theorem dX6_odds_69 : decode cX6_odds 69 = .ok (.iload 6, 2) := by decide +kernel
theorem dX6_odds_71 : decode cX6_odds 71 = .ok (.istore 5, 2) := by decide +kernel
theorem dX6_odds_73 : decode cX6_odds 73 = .ok (.iload 7, 2) := by decide +kernel
theorem dX6_odds_75 : decode cX6_odds 75 = .ok (.istore 6, 2) := by decide +kernel
theorem dX6_odds_77 : decode cX6_odds 77 = .ok (.goto (-20), 3) := by decide +kernel
theorem dX6_odds_80 : decode cX6_odds 80 = .ok (.lconst 1, 1) := by decide +kernel
theorem dX6_odds_81 : decode cX6_odds 81 = .ok (.lstore 7, 2) := by decide +kernel
theorem dX6_odds_83 : decode cX6_odds 83 = .ok (.iconst 0, 1) := by decide +kernel
theorem dX6_odds_84 : decode cX6_odds 84 = .ok (.istore 9, 2) := by decide +kernel
theorem dX6_odds_86 : decode cX6_odds 86 = .ok (.iload 9, 2) := by decide +kernel
theorem dX6_odds_88 : decode cX6_odds 88 = .ok (.iload_n 2, 1) := by decide +kernel
theorem dX6_odds_89 : decode cX6_odds 89 = .ok (.if_icmp .ge 29, 3) := by decide +kernel
theorem dX6_odds_92 : decode cX6_odds 92 = .ok (.lload 7, 2) := by decide +kernel
theorem dX6_odds_94 : decode cX6_odds 94 = .ok (.iload_n 3, 1) := by decide +kernel
theorem dX6_odds_95 : decode cX6_odds 95 = .ok (.ifCond .ne 8, 3) := by decide +kernel
theorem dX6_odds_98 : decode cX6_odds 98 = .ok (.iload 4, 2) := by decide +kernel
theorem dX6_odds_100 : decode cX6_odds 100 = .ok (.goto 5, 3) := by decide +kernel
theorem dX6_odds_103 : decode cX6_odds 103 = .ok (.bipush 12, 2) := by decide +kernel
theorem dX6_odds_105 : decode cX6_odds 105 = .ok (.iload 5, 2) := by decide +kernel
theorem dX6_odds_107 : decode cX6_odds 107 = .ok (.idiv, 1) := by decide +kernel
theorem dX6_odds_108 : decode cX6_odds 108 = .ok (.i2l, 1) := by decide +kernel
theorem dX6_odds_109 : decode cX6_odds 109 = .ok (.lmul, 1) := by decide +kernel
theorem dX6_odds_110 : decode cX6_odds 110 = .ok (.lstore 7, 2) := by decide +kernel
theorem dX6_odds_112 : decode cX6_odds 112 = .ok (.iinc 9 1, 3) := by decide +kernel
theorem dX6_odds_115 : decode cX6_odds 115 = .ok (.goto (-29), 3) := by decide +kernel
theorem dX6_odds_118 : decode cX6_odds 118 = .ok (.lload 7, 2) := by decide +kernel
theorem dX6_odds_120 : decode cX6_odds 120 = .ok (.lreturn, 1) := by decide +kernel
def bX6_odds_105 (fu : Nat) (k86 : mt_St → Int32 → Int32 → Int32 → Int32 → Int64 → Int32 → Option (Int64 × mt_St)) (σ : mt_St) (x2 : Int32) (x3 : Int32) (x4 : Int32) (x5 : Int32) (x9 : Int32) (y0 : Int32) (y1 : Int64) : Option (Int64 × mt_St) :=
  mt_chk (!decide (x5 = 0)) <|
  k86 σ x2 x3 x4 x5 (y1 * (Int32.toInt64 (y0 / x5))) (x9 + 1)
set_option maxHeartbeats 4000000 in
set_option maxRecDepth 20000 in
theorem vX6_odds_105 {K : mt_C} {fu : Nat} {r : Int64} {σf : mt_St} (hQ : mt_R K (some .long) (some (.long r)) σf) {k86 : mt_St → Int32 → Int32 → Int32 → Int32 → Int64 → Int32 → Option (Int64 × mt_St)} (hk86 : ∀ (s0 : mt_St) (x2 : Int32) (x3 : Int32) (x4 : Int32) (x5 : Int32) (x7 : Int64) (x9 : Int32), mt_V K cX6_odds RX6 10 2 s0 86 [(2, .int x2), (3, .int x3), (4, .int x4), (5, .int x5), (7, .long x7), (9, .int x9)] [] (k86 s0 x2 x3 x4 x5 x7 x9 = some (r, σf))) : ∀ (σ : mt_St) (x2 : Int32) (x3 : Int32) (x4 : Int32) (x5 : Int32) (x9 : Int32) (y0 : Int32) (y1 : Int64), mt_V K cX6_odds RX6 10 2 σ 105 [(2, .int x2), (3, .int x3), (4, .int x4), (5, .int x5), (9, .int x9)] [.int y0, .long y1] (bX6_odds_105 fu k86 σ x2 x3 x4 x5 x9 y0 y1 = some (r, σf)) := by
  intro σ x2 x3 x4 x5 x9 y0 y1
  unfold bX6_odds_105
  refine mv_iload 3 dX6_odds_105 rfl ?_
  refine mv_idiv_c dX6_odds_107 ?_
  refine mv_i2l dX6_odds_108 ?_
  refine mv_lmul dX6_odds_109 ?_
  refine mv_lstore (lv' := [(2, .int x2), (3, .int x3), (4, .int x4), (5, .int x5), (7, .long (y1 * (Int32.toInt64 (y0 / x5)))), (9, .int x9)]) [1, 2, 3, 4, 0, 5] dX6_odds_110 (by decide) rfl ?_
  refine mv_iinc (k0 := 5) (v := x9 + 1) (lv' := [(2, .int x2), (3, .int x3), (4, .int x4), (5, .int x5), (7, .long (y1 * (Int32.toInt64 (y0 / x5)))), (9, .int (x9 + 1))]) [1, 2, 3, 4, 5, 0] dX6_odds_112 rfl (mt_inc ic_1) (by decide) rfl ?_
  refine mv_goto 86 dX6_odds_115 (by decide) ?_
  exact hk86 σ x2 x3 x4 x5 (y1 * (Int32.toInt64 (y0 / x5))) (x9 + 1)
def bX6_odds_86 (fu : Nat) : Nat → mt_St → Int32 → Int32 → Int32 → Int32 → Int64 → Int32 → Option (Int64 × mt_St)
  | 0, _, _, _, _, _, _, _ => none
  | n + 1, σ, x2, x3, x4, x5, x7, x9 =>
    if x2 ≤ x9 then
      some (x7, σ)
    else
      if x3 = 0 then
        bX6_odds_105 fu (fun s0 x2 x3 x4 x5 x7 x9 => bX6_odds_86 fu n s0 x2 x3 x4 x5 x7 x9) σ x2 x3 x4 x5 x9 x4 x7
      else
        bX6_odds_105 fu (fun s0 x2 x3 x4 x5 x7 x9 => bX6_odds_86 fu n s0 x2 x3 x4 x5 x7 x9) σ x2 x3 x4 x5 x9 (12 : Int32) x7
set_option maxHeartbeats 4000000 in
set_option maxRecDepth 20000 in
theorem vX6_odds_86 {K : mt_C} {fu : Nat} {r : Int64} {σf : mt_St} (hQ : mt_R K (some .long) (some (.long r)) σf) : ∀ (n : Nat) (σ : mt_St) (x2 : Int32) (x3 : Int32) (x4 : Int32) (x5 : Int32) (x7 : Int64) (x9 : Int32), mt_V K cX6_odds RX6 10 2 σ 86 [(2, .int x2), (3, .int x3), (4, .int x4), (5, .int x5), (7, .long x7), (9, .int x9)] [] (bX6_odds_86 fu n σ x2 x3 x4 x5 x7 x9 = some (r, σf)) := by
  intro n
  induction n with
  | zero => intro σ x2 x3 x4 x5 x7 x9; intro hP; unfold bX6_odds_86 at hP; cases hP
  | succ n ih =>
    intro σ x2 x3 x4 x5 x7 x9
    unfold bX6_odds_86
    refine mv_iload 5 dX6_odds_86 rfl ?_
    refine mv_iload_n 0 dX6_odds_88 rfl rfl ?_
    refine mv_icmp_ge 118 dX6_odds_89 (by decide) ?_ ?_
    · refine mv_lload 4 dX6_odds_118 rfl ?_
      exact mv_lret hQ dX6_odds_120
    · refine mv_lload 4 dX6_odds_92 rfl ?_
      refine mv_iload_n 1 dX6_odds_94 rfl rfl ?_
      refine mv_if_ne 103 dX6_odds_95 (by decide) ?_ ?_
      · refine mv_bipush (v := 12) dX6_odds_103 bp_12 ?_
        refine mv_sub (lv' := [(2, .int x2), (3, .int x3), (4, .int x4), (5, .int x5), (9, .int x9)]) [0, 1, 2, 3, 5] rfl ?_
        exact vX6_odds_105 hQ (fun s0 x2 x3 x4 x5 x7 x9 => ih s0 x2 x3 x4 x5 x7 x9) σ x2 x3 x4 x5 x9 (12 : Int32) x7
      · refine mv_iload 2 dX6_odds_98 rfl ?_
        refine mv_goto 105 dX6_odds_100 (by decide) ?_
        refine mv_sub (lv' := [(2, .int x2), (3, .int x3), (4, .int x4), (5, .int x5), (9, .int x9)]) [0, 1, 2, 3, 5] rfl ?_
        exact vX6_odds_105 hQ (fun s0 x2 x3 x4 x5 x7 x9 => ih s0 x2 x3 x4 x5 x7 x9) σ x2 x3 x4 x5 x9 x4 x7
def bX6_odds_57 (fu : Nat) : Nat → mt_St → Int32 → Int32 → Int32 → Int32 → Int32 → Option (Int64 × mt_St)
  | 0, _, _, _, _, _, _ => none
  | n + 1, σ, x2, x3, x4, x5, x6 =>
    if x6 = 0 then
      bX6_odds_86 fu fu σ x2 x3 x4 x5 (1 : Int64) (0 : Int32)
    else
      mt_chk (!decide (x6 = 0)) <|
      bX6_odds_57 fu n σ x2 x3 x4 x6 (x5 - x5 / x6 * x6)
set_option maxHeartbeats 4000000 in
set_option maxRecDepth 20000 in
theorem vX6_odds_57 {K : mt_C} {fu : Nat} {r : Int64} {σf : mt_St} (hQ : mt_R K (some .long) (some (.long r)) σf) : ∀ (n : Nat) (σ : mt_St) (x2 : Int32) (x3 : Int32) (x4 : Int32) (x5 : Int32) (x6 : Int32), mt_V K cX6_odds RX6 10 2 σ 57 [(2, .int x2), (3, .int x3), (4, .int x4), (5, .int x5), (6, .int x6)] [] (bX6_odds_57 fu n σ x2 x3 x4 x5 x6 = some (r, σf)) := by
  intro n
  induction n with
  | zero => intro σ x2 x3 x4 x5 x6; intro hP; unfold bX6_odds_57 at hP; cases hP
  | succ n ih =>
    intro σ x2 x3 x4 x5 x6
    unfold bX6_odds_57
    refine mv_iload 4 dX6_odds_57 rfl ?_
    refine mv_if_eq 80 dX6_odds_59 (by decide) ?_ ?_
    · refine mv_lconst (v := 1) dX6_odds_80 (by decide) ?_
      refine mv_lstore (lv' := [(2, .int x2), (3, .int x3), (4, .int x4), (5, .int x5), (7, .long (1 : Int64))]) [1, 2, 3, 4, 0] dX6_odds_81 (by decide) rfl ?_
      refine mv_iconst (v := 0) dX6_odds_83 ic_0 ?_
      refine mv_istore (lv' := [(2, .int x2), (3, .int x3), (4, .int x4), (5, .int x5), (7, .long (1 : Int64)), (9, .int (0 : Int32))]) [1, 2, 3, 4, 5, 0] dX6_odds_84 (by decide) rfl ?_
      exact vX6_odds_86 hQ fu σ x2 x3 x4 x5 (1 : Int64) (0 : Int32)
    · refine mv_iload 3 dX6_odds_62 rfl ?_
      refine mv_iload 4 dX6_odds_64 rfl ?_
      refine mv_irem_c dX6_odds_66 ?_
      refine mv_istore (lv' := [(2, .int x2), (3, .int x3), (4, .int x4), (6, .int x6), (7, .int (x5 - x5 / x6 * x6))]) [1, 2, 3, 5, 0] dX6_odds_67 (by decide) rfl ?_
      refine mv_iload 3 dX6_odds_69 rfl ?_
      refine mv_istore (lv' := [(2, .int x2), (3, .int x3), (4, .int x4), (5, .int x6), (7, .int (x5 - x5 / x6 * x6))]) [1, 2, 3, 0, 5] dX6_odds_71 (by decide) rfl ?_
      refine mv_iload 4 dX6_odds_73 rfl ?_
      refine mv_istore (lv' := [(2, .int x2), (3, .int x3), (4, .int x4), (5, .int x6), (6, .int (x5 - x5 / x6 * x6))]) [1, 2, 3, 4, 0] dX6_odds_75 (by decide) rfl ?_
      refine mv_goto 57 dX6_odds_77 (by decide) ?_
      exact ih σ x2 x3 x4 x6 (x5 - x5 / x6 * x6)
def bX6_odds_27 (fu : Nat) (σ : mt_St) : Option (Int64 × mt_St) :=
  mt_call (fX6_finding fu σ (-1000001 : Int32)) fun r1 s2 =>
  some ((Int32.toInt64 r1), s2)
set_option maxHeartbeats 4000000 in
set_option maxRecDepth 20000 in
theorem vX6_odds_27 {K : mt_C} {fu : Nat} {r : Int64} {σf : mt_St} (hQ : mt_R K (some .long) (some (.long r)) σf) : ∀ (σ : mt_St), mt_V K cX6_odds RX6 10 2 σ 27 [(0, .ref (mt_adr (kG K) 56))] [] (bX6_odds_27 fu σ = some (r, σf)) := by
  intro σ
  unfold bX6_odds_27
  refine mv_aload_n 0 dX6_odds_27 rfl rfl ?_
  refine mv_ldc kc_X6_60 dX6_odds_28 ?_
  refine mv_cVwi (As := [.int (-1000001 : Int32)]) (st := []) cal_X6_finding ins_X6_finding ml_X6_66 rfl (by decide) rfl rfl (by decide) rfl (Nat.le_of_ble_eq_true rfl) dX6_odds_30 (fun r s h => co_X6_finding h) (fun r1 s2 => ?_)
  refine mv_i2l dX6_odds_33 ?_
  exact mv_lret hQ dX6_odds_34
def fX6_odds (fu : Nat) (σ : mt_St) (a1 : Int32) (a2 : Int32) (a3 : Int32) : Option (Int64 × mt_St) :=
  mt_ask (fX6_isTreaty fu σ a1) fun r1 =>
  if r1 = 0 then
    bX6_odds_27 fu σ
  else
    mt_ask (fX6_within fu a2 (0 : Int32) (17 : Int32)) fun r2 =>
    if r2 = 0 then
      bX6_odds_27 fu σ
    else
      mt_ask (fX6_within fu a3 (0 : Int32) (1 : Int32)) fun r3 =>
      if r3 = 0 then
        bX6_odds_27 fu σ
      else
        mt_ask (fX6_treatyIs fu σ a1 (3 : Int32)) fun r4 =>
        mt_ask (fX6_bits fu r4) fun r5 =>
        bX6_odds_57 fu fu σ a2 a3 ((12 : Int32) - r5) (12 : Int32) ((12 : Int32) - r5)
set_option maxHeartbeats 4000000 in
set_option maxRecDepth 20000 in
theorem vX6_odds {K : mt_C} {fu : Nat} {σ : mt_St} {a1 : Int32} {a2 : Int32} {a3 : Int32} {r : Int64} {σf : mt_St} (hQ : mt_R K (some .long) (some (.long r)) σf) : mt_V K cX6_odds RX6 10 2 σ 0 [(0, .ref (mt_adr (kG K) 56)), (1, .int a1), (2, .int a2), (3, .int a3)] [] (fX6_odds fu σ a1 a2 a3 = some (r, σf)) := by
  unfold fX6_odds
  refine mv_aload_n 0 dX6_odds_0 rfl rfl ?_
  refine mv_iload_n 1 dX6_odds_1 rfl rfl ?_
  refine mv_cVri (As := [.int a1]) (st := []) cal_X6_isTreaty ins_X6_isTreaty ml_X6_120 rfl (by decide) rfl rfl (by decide) rfl (Nat.le_of_ble_eq_true rfl) dX6_odds_2 (fun r h => co_X6_isTreaty h) (fun r1 => ?_)
  refine mv_if_eq 27 dX6_odds_5 (by decide) ?_ ?_
  · refine mv_sub (lv' := [(0, .ref (mt_adr (kG K) 56))]) [0] rfl ?_
    exact vX6_odds_27 hQ σ
  · refine mv_iload_n 2 dX6_odds_8 rfl rfl ?_
    refine mv_iconst (v := 0) dX6_odds_9 ic_0 ?_
    refine mv_bipush (v := 17) dX6_odds_10 bp_17 ?_
    refine mv_cSri (As := [.int a2, .int (0 : Int32), .int (17 : Int32)]) (st := []) cal_X6_within sta_X6_within ml_X6_70 rfl (by decide) rfl (Nat.le_of_ble_eq_true rfl) dX6_odds_12 (fun r h => co_X6_within h) (fun r2 => ?_)
    refine mv_if_eq 27 dX6_odds_15 (by decide) ?_ ?_
    · refine mv_sub (lv' := [(0, .ref (mt_adr (kG K) 56))]) [0] rfl ?_
      exact vX6_odds_27 hQ σ
    · refine mv_iload_n 3 dX6_odds_18 rfl rfl ?_
      refine mv_iconst (v := 0) dX6_odds_19 ic_0 ?_
      refine mv_iconst (v := 1) dX6_odds_20 ic_1 ?_
      refine mv_cSri (As := [.int a3, .int (0 : Int32), .int (1 : Int32)]) (st := []) cal_X6_within sta_X6_within ml_X6_70 rfl (by decide) rfl (Nat.le_of_ble_eq_true rfl) dX6_odds_21 (fun r h => co_X6_within h) (fun r3 => ?_)
      refine mv_if_ne 35 dX6_odds_24 (by decide) ?_ ?_
      · refine mv_bipush (v := 12) dX6_odds_35 bp_12 ?_
        refine mv_aload_n 0 dX6_odds_37 rfl rfl ?_
        refine mv_iload_n 1 dX6_odds_38 rfl rfl ?_
        refine mv_iconst (v := 3) dX6_odds_39 ic_3 ?_
        refine mv_cVri (As := [.int a1, .int (3 : Int32)]) (st := [.int (12 : Int32)]) cal_X6_treatyIs ins_X6_treatyIs ml_X6_99 rfl (by decide) rfl rfl (by decide) rfl (Nat.le_of_ble_eq_true rfl) dX6_odds_40 (fun r h => co_X6_treatyIs h) (fun r4 => ?_)
        refine mv_cSri (As := [.int r4]) (st := [.int (12 : Int32)]) cal_X6_bits sta_X6_bits ml_X6_102 rfl (by decide) rfl (Nat.le_of_ble_eq_true rfl) dX6_odds_43 (fun r h => co_X6_bits h) (fun r5 => ?_)
        refine mv_isub dX6_odds_46 ?_
        refine mv_istore (lv' := [(2, .int a2), (3, .int a3), (4, .int ((12 : Int32) - r5))]) [3, 4, 0] dX6_odds_47 (by decide) rfl ?_
        refine mv_bipush (v := 12) dX6_odds_49 bp_12 ?_
        refine mv_istore (lv' := [(2, .int a2), (3, .int a3), (4, .int ((12 : Int32) - r5)), (5, .int (12 : Int32))]) [1, 2, 3, 0] dX6_odds_51 (by decide) rfl ?_
        refine mv_iload 2 dX6_odds_53 rfl ?_
        refine mv_istore (lv' := [(2, .int a2), (3, .int a3), (4, .int ((12 : Int32) - r5)), (5, .int (12 : Int32)), (6, .int ((12 : Int32) - r5))]) [1, 2, 3, 4, 0] dX6_odds_55 (by decide) rfl ?_
        exact vX6_odds_57 hQ fu σ a2 a3 ((12 : Int32) - r5) (12 : Int32) ((12 : Int32) - r5)
      · refine mv_sub (lv' := [(0, .ref (mt_adr (kG K) 56))]) [0] rfl ?_
        exact vX6_odds_27 hQ σ
theorem co_X6_odds {l : Launch} {G : mt_G} {fu : Nat} {σ : mt_St} {a1 : Int32} {a2 : Int32} {a3 : Int32} {r : Int64} {σf : mt_St}  (h : fX6_odds fu σ a1 a2 a3 = some (r, σf)) : mt_Con l G yX6_odds cX6_odds 10 (some .long) 2 [.ref (mt_adr G 56), .int a1, .int a2, .int a3] σ (some (.long r)) σf :=
  mt_con (by decide) (Nat.le_of_ble_eq_true rfl) (fun K hl hG hQ => by subst hl; subst hG; exact fun _ => vX6_odds  hQ h)
theorem dX6_seed_0 : decode cX6_seed 0 = .ok (.aload_n 0, 1) := by decide +kernel
theorem dX6_seed_1 : decode cX6_seed 1 = .ok (.iconst 2, 1) := by decide +kernel
theorem dX6_seed_2 : decode cX6_seed 2 = .ok (.iload_n 1, 1) := by decide +kernel
theorem dX6_seed_3 : decode cX6_seed 3 = .ok (.invokevirtual 78, 3) := by decide +kernel
theorem dX6_seed_6 : decode cX6_seed 6 = .ok (.ireturn, 1) := by decide +kernel
def fX6_seed (fu : Nat) (σ : mt_St) (a1 : Int32) : Option (Int32 × mt_St) :=
  mt_call (fX6_become fu σ (2 : Int32) a1) fun r1 s2 =>
  some (r1, s2)
set_option maxHeartbeats 4000000 in
set_option maxRecDepth 20000 in
theorem vX6_seed {K : mt_C} {fu : Nat} {σ : mt_St} {a1 : Int32} {r : Int32} {σf : mt_St} (hQ : mt_R K (some .int) (some (.int r)) σf) : mt_V K cX6_seed RX6 2 1 σ 0 [(0, .ref (mt_adr (kG K) 56)), (1, .int a1)] [] (fX6_seed fu σ a1 = some (r, σf)) := by
  unfold fX6_seed
  refine mv_aload_n 0 dX6_seed_0 rfl rfl ?_
  refine mv_iconst (v := 2) dX6_seed_1 ic_2 ?_
  refine mv_iload_n 1 dX6_seed_2 rfl rfl ?_
  refine mv_cVwi (As := [.int (2 : Int32), .int a1]) (st := []) cal_X6_become ins_X6_become ml_X6_78 rfl (by decide) rfl rfl (by decide) rfl (Nat.le_of_ble_eq_true rfl) dX6_seed_3 (fun r s h => co_X6_become h) (fun r1 s2 => ?_)
  exact mv_iret hQ dX6_seed_6
theorem co_X6_seed {l : Launch} {G : mt_G} {fu : Nat} {σ : mt_St} {a1 : Int32} {r : Int32} {σf : mt_St}  (h : fX6_seed fu σ a1 = some (r, σf)) : mt_Con l G yX6_seed cX6_seed 2 (some .int) 1 [.ref (mt_adr G 56), .int a1] σ (some (.int r)) σf :=
  mt_con (by decide) (Nat.le_of_ble_eq_true rfl) (fun K hl hG hQ => by subst hl; subst hG; exact fun _ => vX6_seed  hQ h)
theorem dX6_feed_0 : decode cX6_feed 0 = .ok (.iload_n 2, 1) := by decide +kernel
theorem dX6_feed_1 : decode cX6_feed 1 = .ok (.iconst 1, 1) := by decide +kernel
theorem dX6_feed_2 : decode cX6_feed 2 = .ok (.iconst 4, 1) := by decide +kernel
theorem dX6_feed_3 : decode cX6_feed 3 = .ok (.invokestatic 70, 3) := by decide +kernel
theorem dX6_feed_6 : decode cX6_feed 6 = .ok (.ifCond .ne 10, 3) := by decide +kernel
theorem dX6_feed_9 : decode cX6_feed 9 = .ok (.aload_n 0, 1) := by decide +kernel
theorem dX6_feed_10 : decode cX6_feed 10 = .ok (.ldc 60, 2) := by decide +kernel
theorem dX6_feed_12 : decode cX6_feed 12 = .ok (.invokevirtual 66, 3) := by decide +kernel
theorem dX6_feed_15 : decode cX6_feed 15 = .ok (.ireturn, 1) := by decide +kernel
theorem dX6_feed_16 : decode cX6_feed 16 = .ok (.aload_n 0, 1) := by decide +kernel
theorem dX6_feed_17 : decode cX6_feed 17 = .ok (.getfield 222, 3) := by decide +kernel
theorem dX6_feed_20 : decode cX6_feed 20 = .ok (.iload_n 2, 1) := by decide +kernel
theorem dX6_feed_21 : decode cX6_feed 21 = .ok (.iadd, 1) := by decide +kernel
theorem dX6_feed_22 : decode cX6_feed 22 = .ok (.bipush 120, 2) := by decide +kernel
theorem dX6_feed_24 : decode cX6_feed 24 = .ok (.if_icmp .le 10, 3) := by decide +kernel
theorem dX6_feed_27 : decode cX6_feed 27 = .ok (.aload_n 0, 1) := by decide +kernel
theorem dX6_feed_28 : decode cX6_feed 28 = .ok (.ldc 94, 2) := by decide +kernel
theorem dX6_feed_30 : decode cX6_feed 30 = .ok (.invokevirtual 66, 3) := by decide +kernel
theorem dX6_feed_33 : decode cX6_feed 33 = .ok (.ireturn, 1) := by decide +kernel
theorem dX6_feed_34 : decode cX6_feed 34 = .ok (.iload_n 2, 1) := by decide +kernel
theorem dX6_feed_35 : decode cX6_feed 35 = .ok (.iconst 1, 1) := by decide +kernel
theorem dX6_feed_36 : decode cX6_feed 36 = .ok (.isub, 1) := by decide +kernel
theorem dX6_feed_37 : decode cX6_feed 37 = .ok (.istore_n 3, 1) := by decide +kernel
theorem dX6_feed_38 : decode cX6_feed 38 = .ok (.iload_n 3, 1) := by decide +kernel
theorem dX6_feed_39 : decode cX6_feed 39 = .ok (.ifCond .lt 38, 3) := by decide +kernel
theorem dX6_feed_42 : decode cX6_feed 42 = .ok (.aload_n 0, 1) := by decide +kernel
theorem dX6_feed_43 : decode cX6_feed 43 = .ok (.getfield 22, 3) := by decide +kernel
theorem dX6_feed_46 : decode cX6_feed 46 = .ok (.aload_n 0, 1) := by decide +kernel
theorem dX6_feed_47 : decode cX6_feed 47 = .ok (.getfield 222, 3) := by decide +kernel
theorem dX6_feed_50 : decode cX6_feed 50 = .ok (.iload_n 1, 1) := by decide +kernel
theorem dX6_feed_51 : decode cX6_feed 51 = .ok (.bipush 8, 2) := by decide +kernel
theorem dX6_feed_53 : decode cX6_feed 53 = .ok (.iload_n 3, 1) := by decide +kernel
theorem dX6_feed_54 : decode cX6_feed 54 = .ok (.imul, 1) := by decide +kernel
theorem dX6_feed_55 : decode cX6_feed 55 = .ok (.ishr, 1) := by decide +kernel
theorem dX6_feed_56 : decode cX6_feed 56 = .ok (.sipush 255, 3) := by decide +kernel
theorem dX6_feed_59 : decode cX6_feed 59 = .ok (.iand, 1) := by decide +kernel
theorem dX6_feed_60 : decode cX6_feed 60 = .ok (.iastore, 1) := by decide +kernel
theorem dX6_feed_61 : decode cX6_feed 61 = .ok (.aload_n 0, 1) := by decide +kernel
theorem dX6_feed_62 : decode cX6_feed 62 = .ok (.dup, 1) := by decide +kernel
theorem dX6_feed_63 : decode cX6_feed 63 = .ok (.getfield 222, 3) := by decide +kernel
theorem dX6_feed_66 : decode cX6_feed 66 = .ok (.iconst 1, 1) := by decide +kernel
theorem dX6_feed_67 : decode cX6_feed 67 = .ok (.iadd, 1) := by decide +kernel
theorem dX6_feed_68 : decode cX6_feed 68 = .ok (.putfield 222, 3) := by decide +kernel
theorem dX6_feed_71 : decode cX6_feed 71 = .ok (.iinc 3 (-1), 3) := by decide +kernel
theorem dX6_feed_74 : decode cX6_feed 74 = .ok (.goto (-36), 3) := by decide +kernel
theorem dX6_feed_77 : decode cX6_feed 77 = .ok (.aload_n 0, 1) := by decide +kernel
theorem dX6_feed_78 : decode cX6_feed 78 = .ok (.getfield 222, 3) := by decide +kernel
theorem dX6_feed_81 : decode cX6_feed 81 = .ok (.ireturn, 1) := by decide +kernel
def bX6_feed_38 (fu : Nat) : Nat → mt_St → Int32 → Int32 → Option (Int32 × mt_St)
  | 0, _, _, _ => none
  | n + 1, σ, x1, x3 =>
    if x3 < 0 then
      some ((σ 56 7), σ)
    else
      mt_chk (mt_in (σ 56 7) 120) <|
      mt_bnd (mt_up σ 61 (Int32.toNatClampNeg (σ 56 7)) ((x1 >>> (((8 : Int32) * x3) &&& 31)) &&& (255 : Int32))) fun s1 =>
      mt_bnd (mt_up s1 56 7 ((s1 56 7) + (1 : Int32))) fun s2 =>
      bX6_feed_38 fu n s2 x1 (x3 + -1)
set_option maxHeartbeats 4000000 in
set_option maxRecDepth 20000 in
theorem vX6_feed_38 {K : mt_C} {fu : Nat} {r : Int32} {σf : mt_St} (hQ : mt_R K (some .int) (some (.int r)) σf) : ∀ (n : Nat) (σ : mt_St) (x1 : Int32) (x3 : Int32), mt_V K cX6_feed RX6 4 1 σ 38 [(0, .ref (mt_adr (kG K) 56)), (1, .int x1), (3, .int x3)] [] (bX6_feed_38 fu n σ x1 x3 = some (r, σf)) := by
  intro n
  induction n with
  | zero => intro σ x1 x3; intro hP; unfold bX6_feed_38 at hP; cases hP
  | succ n ih =>
    intro σ x1 x3
    unfold bX6_feed_38
    refine mv_iload_n 2 dX6_feed_38 rfl rfl ?_
    refine mv_if_lt 77 dX6_feed_39 (by decide) ?_ ?_
    · refine mv_aload_n 0 dX6_feed_77 rfl rfl ?_
      refine mg_X6_7 fl_X6_222 dX6_feed_78 ?_
      exact mv_iret hQ dX6_feed_81
    · refine mv_aload_n 0 dX6_feed_42 rfl rfl ?_
      refine mg_X6_6 fl_X6_22 dX6_feed_43 ?_
      refine mv_aload_n 0 dX6_feed_46 rfl rfl ?_
      refine mg_X6_7 fl_X6_222 dX6_feed_47 ?_
      refine mv_iload_n 1 dX6_feed_50 rfl rfl ?_
      refine mv_bipush (v := 8) dX6_feed_51 bp_8 ?_
      refine mv_iload_n 2 dX6_feed_53 rfl rfl ?_
      refine mv_imul dX6_feed_54 ?_
      refine mv_ishr dX6_feed_55 ?_
      refine mv_sipush (v := 255) dX6_feed_56 sp_255 ?_
      refine mv_iand dX6_feed_59 ?_
      refine mv_iast 120 rfl rfl dX6_feed_60 (fun s1 => ?_)
      refine mv_aload_n 0 dX6_feed_61 rfl rfl ?_
      refine mv_dup dX6_feed_62 rfl ?_
      refine mg_X6_7 fl_X6_222 dX6_feed_63 ?_
      refine mv_iconst (v := 1) dX6_feed_66 ic_1 ?_
      refine mv_iadd dX6_feed_67 ?_
      refine mp_X6_7 fl_X6_222 dX6_feed_68 (fun s2 => ?_)
      refine mv_iinc (k0 := 2) (v := x3 + -1) (lv' := [(0, .ref (mt_adr (kG K) 56)), (1, .int x1), (3, .int (x3 + -1))]) [1, 2, 0] dX6_feed_71 rfl (mt_inc ic_m1) (by decide) rfl ?_
      refine mv_goto 38 dX6_feed_74 (by decide) ?_
      exact ih s2 x1 (x3 + -1)
def fX6_feed (fu : Nat) (σ : mt_St) (a1 : Int32) (a2 : Int32) : Option (Int32 × mt_St) :=
  mt_ask (fX6_within fu a2 (1 : Int32) (4 : Int32)) fun r1 =>
  if r1 = 0 then
    mt_call (fX6_finding fu σ (-1000001 : Int32)) fun r4 s5 =>
    some (r4, s5)
  else
    if ((σ 56 7) + a2) ≤ (120 : Int32) then
      bX6_feed_38 fu fu σ a1 (a2 - (1 : Int32))
    else
      mt_call (fX6_finding fu σ (-1000002 : Int32)) fun r2 s3 =>
      some (r2, s3)
set_option maxHeartbeats 4000000 in
set_option maxRecDepth 20000 in
theorem vX6_feed {K : mt_C} {fu : Nat} {σ : mt_St} {a1 : Int32} {a2 : Int32} {r : Int32} {σf : mt_St} (hQ : mt_R K (some .int) (some (.int r)) σf) : mt_V K cX6_feed RX6 4 1 σ 0 [(0, .ref (mt_adr (kG K) 56)), (1, .int a1), (2, .int a2)] [] (fX6_feed fu σ a1 a2 = some (r, σf)) := by
  unfold fX6_feed
  refine mv_iload_n 2 dX6_feed_0 rfl rfl ?_
  refine mv_iconst (v := 1) dX6_feed_1 ic_1 ?_
  refine mv_iconst (v := 4) dX6_feed_2 ic_4 ?_
  refine mv_cSri (As := [.int a2, .int (1 : Int32), .int (4 : Int32)]) (st := []) cal_X6_within sta_X6_within ml_X6_70 rfl (by decide) rfl (Nat.le_of_ble_eq_true rfl) dX6_feed_3 (fun r h => co_X6_within h) (fun r1 => ?_)
  refine mv_if_ne 16 dX6_feed_6 (by decide) ?_ ?_
  · refine mv_aload_n 0 dX6_feed_16 rfl rfl ?_
    refine mg_X6_7 fl_X6_222 dX6_feed_17 ?_
    refine mv_iload_n 2 dX6_feed_20 rfl rfl ?_
    refine mv_iadd dX6_feed_21 ?_
    refine mv_bipush (v := 120) dX6_feed_22 bp_120 ?_
    refine mv_icmp_le 34 dX6_feed_24 (by decide) ?_ ?_
    · refine mv_iload_n 2 dX6_feed_34 rfl rfl ?_
      refine mv_iconst (v := 1) dX6_feed_35 ic_1 ?_
      refine mv_isub dX6_feed_36 ?_
      refine mv_istore_n (lv' := [(0, .ref (mt_adr (kG K) 56)), (1, .int a1), (3, .int (a2 - (1 : Int32)))]) [1, 2, 0] dX6_feed_37 rfl (by decide) rfl ?_
      exact vX6_feed_38 hQ fu σ a1 (a2 - (1 : Int32))
    · refine mv_aload_n 0 dX6_feed_27 rfl rfl ?_
      refine mv_ldc kc_X6_94 dX6_feed_28 ?_
      refine mv_cVwi (As := [.int (-1000002 : Int32)]) (st := []) cal_X6_finding ins_X6_finding ml_X6_66 rfl (by decide) rfl rfl (by decide) rfl (Nat.le_of_ble_eq_true rfl) dX6_feed_30 (fun r s h => co_X6_finding h) (fun r2 s3 => ?_)
      exact mv_iret hQ dX6_feed_33
  · refine mv_aload_n 0 dX6_feed_9 rfl rfl ?_
    refine mv_ldc kc_X6_60 dX6_feed_10 ?_
    refine mv_cVwi (As := [.int (-1000001 : Int32)]) (st := []) cal_X6_finding ins_X6_finding ml_X6_66 rfl (by decide) rfl rfl (by decide) rfl (Nat.le_of_ble_eq_true rfl) dX6_feed_12 (fun r s h => co_X6_finding h) (fun r4 s5 => ?_)
    exact mv_iret hQ dX6_feed_15
theorem co_X6_feed {l : Launch} {G : mt_G} {fu : Nat} {σ : mt_St} {a1 : Int32} {a2 : Int32} {r : Int32} {σf : mt_St}  (h : fX6_feed fu σ a1 a2 = some (r, σf)) : mt_Con l G yX6_feed cX6_feed 4 (some .int) 1 [.ref (mt_adr G 56), .int a1, .int a2] σ (some (.int r)) σf :=
  mt_con (by decide) (Nat.le_of_ble_eq_true rfl) (fun K hl hG hQ => by subst hl; subst hG; exact fun _ => vX6_feed  hQ h)
theorem dX6_wipe_0 : decode cX6_wipe 0 = .ok (.aload_n 0, 1) := by decide +kernel
theorem dX6_wipe_1 : decode cX6_wipe 1 = .ok (.getfield 222, 3) := by decide +kernel
theorem dX6_wipe_4 : decode cX6_wipe 4 = .ok (.istore_n 1, 1) := by decide +kernel
theorem dX6_wipe_5 : decode cX6_wipe 5 = .ok (.aload_n 0, 1) := by decide +kernel
theorem dX6_wipe_6 : decode cX6_wipe 6 = .ok (.iconst 0, 1) := by decide +kernel
theorem dX6_wipe_7 : decode cX6_wipe 7 = .ok (.putfield 222, 3) := by decide +kernel
theorem dX6_wipe_10 : decode cX6_wipe 10 = .ok (.iload_n 1, 1) := by decide +kernel
theorem dX6_wipe_11 : decode cX6_wipe 11 = .ok (.ireturn, 1) := by decide +kernel
def fX6_wipe (fu : Nat) (σ : mt_St) : Option (Int32 × mt_St) :=
  mt_bnd (mt_up σ 56 7 (0 : Int32)) fun s1 =>
  some ((σ 56 7), s1)
set_option maxHeartbeats 4000000 in
set_option maxRecDepth 20000 in
theorem vX6_wipe {K : mt_C} {fu : Nat} {σ : mt_St} {r : Int32} {σf : mt_St} (hQ : mt_R K (some .int) (some (.int r)) σf) : mt_V K cX6_wipe RX6 2 0 σ 0 [(0, .ref (mt_adr (kG K) 56))] [] (fX6_wipe fu σ = some (r, σf)) := by
  unfold fX6_wipe
  refine mv_aload_n 0 dX6_wipe_0 rfl rfl ?_
  refine mg_X6_7 fl_X6_222 dX6_wipe_1 ?_
  refine mv_istore_n (lv' := [(0, .ref (mt_adr (kG K) 56)), (1, .int (σ 56 7))]) [1, 0] dX6_wipe_4 rfl (by decide) rfl ?_
  refine mv_aload_n 0 dX6_wipe_5 rfl rfl ?_
  refine mv_iconst (v := 0) dX6_wipe_6 ic_0 ?_
  refine mp_X6_7 fl_X6_222 dX6_wipe_7 (fun s1 => ?_)
  refine mv_iload_n 1 dX6_wipe_10 rfl rfl ?_
  exact mv_iret hQ dX6_wipe_11
theorem co_X6_wipe {l : Launch} {G : mt_G} {fu : Nat} {σ : mt_St} {r : Int32} {σf : mt_St}  (h : fX6_wipe fu σ = some (r, σf)) : mt_Con l G yX6_wipe cX6_wipe 2 (some .int) 0 [.ref (mt_adr G 56)] σ (some (.int r)) σf :=
  mt_con (by decide) (Nat.le_of_ble_eq_true rfl) (fun K hl hG hQ => by subst hl; subst hG; exact fun _ => vX6_wipe  hQ h)
theorem dX6_byteAt_0 : decode cX6_byteAt 0 = .ok (.iload_n 1, 1) := by decide +kernel
theorem dX6_byteAt_1 : decode cX6_byteAt 1 = .ok (.aload_n 0, 1) := by decide +kernel
theorem dX6_byteAt_2 : decode cX6_byteAt 2 = .ok (.getfield 222, 3) := by decide +kernel
theorem dX6_byteAt_5 : decode cX6_byteAt 5 = .ok (.if_icmp .ge 12, 3) := by decide +kernel
theorem dX6_byteAt_8 : decode cX6_byteAt 8 = .ok (.aload_n 0, 1) := by decide +kernel
theorem dX6_byteAt_9 : decode cX6_byteAt 9 = .ok (.getfield 22, 3) := by decide +kernel
theorem dX6_byteAt_12 : decode cX6_byteAt 12 = .ok (.iload_n 1, 1) := by decide +kernel
theorem dX6_byteAt_13 : decode cX6_byteAt 13 = .ok (.iaload, 1) := by decide +kernel
theorem dX6_byteAt_14 : decode cX6_byteAt 14 = .ok (.goto 4, 3) := by decide +kernel
theorem dX6_byteAt_17 : decode cX6_byteAt 17 = .ok (.iconst (-1), 1) := by decide +kernel
theorem dX6_byteAt_18 : decode cX6_byteAt 18 = .ok (.ireturn, 1) := by decide +kernel
def bX6_byteAt_18 (fu : Nat) (σ : mt_St) (y0 : Int32) : Option Int32 :=
  some y0
set_option maxHeartbeats 4000000 in
set_option maxRecDepth 20000 in
theorem vX6_byteAt_18 {K : mt_C} {fu : Nat} {σ : mt_St} {r : Int32} (hQ : mt_R K (some .int) (some (.int r)) σ) : ∀ (y0 : Int32), mt_V K cX6_byteAt RX6 2 0 σ 18 [] [.int y0] (bX6_byteAt_18 fu σ y0 = some r) := by
  intro y0
  unfold bX6_byteAt_18
  exact mv_iretr hQ dX6_byteAt_18
def fX6_byteAt (fu : Nat) (σ : mt_St) (a1 : Int32) : Option Int32 :=
  if (σ 56 7) ≤ a1 then
    bX6_byteAt_18 fu σ (-1 : Int32)
  else
    mt_chk (mt_in a1 120) <|
    bX6_byteAt_18 fu σ (σ 61 (Int32.toNatClampNeg a1))
set_option maxHeartbeats 4000000 in
set_option maxRecDepth 20000 in
theorem vX6_byteAt {K : mt_C} {fu : Nat} {σ : mt_St} {a1 : Int32} {r : Int32} (hQ : mt_R K (some .int) (some (.int r)) σ) : mt_V K cX6_byteAt RX6 2 0 σ 0 [(0, .ref (mt_adr (kG K) 56)), (1, .int a1)] [] (fX6_byteAt fu σ a1 = some r) := by
  unfold fX6_byteAt
  refine mv_iload_n 1 dX6_byteAt_0 rfl rfl ?_
  refine mv_aload_n 0 dX6_byteAt_1 rfl rfl ?_
  refine mg_X6_7 fl_X6_222 dX6_byteAt_2 ?_
  refine mv_icmp_ge 17 dX6_byteAt_5 (by decide) ?_ ?_
  · refine mv_iconst (v := -1) dX6_byteAt_17 ic_m1 ?_
    refine mv_sub (lv' := []) [] rfl ?_
    exact vX6_byteAt_18 hQ (-1 : Int32)
  · refine mv_aload_n 0 dX6_byteAt_8 rfl rfl ?_
    refine mg_X6_6 fl_X6_22 dX6_byteAt_9 ?_
    refine mv_iload_n 1 dX6_byteAt_12 rfl rfl ?_
    refine mv_iald 120 rfl rfl dX6_byteAt_13 ?_
    refine mv_goto 18 dX6_byteAt_14 (by decide) ?_
    refine mv_sub (lv' := []) [] rfl ?_
    exact vX6_byteAt_18 hQ (σ 61 (Int32.toNatClampNeg a1))
theorem co_X6_byteAt {l : Launch} {G : mt_G} {fu : Nat} {σ : mt_St} {a1 : Int32} {r : Int32}  (h : fX6_byteAt fu σ a1 = some r) : mt_Con l G yX6_byteAt cX6_byteAt 2 (some .int) 0 [.ref (mt_adr G 56), .int a1] σ (some (.int r)) σ :=
  mt_con (by decide) (Nat.le_of_ble_eq_true rfl) (fun K hl hG hQ => by subst hl; subst hG; exact fun _ => vX6_byteAt  hQ h)
theorem dX6_token_0 : decode cX6_token 0 = .ok (.aload_n 0, 1) := by decide +kernel
theorem dX6_token_1 : decode cX6_token 1 = .ok (.aload_n 0, 1) := by decide +kernel
theorem dX6_token_2 : decode cX6_token 2 = .ok (.getfield 225, 3) := by decide +kernel
theorem dX6_token_5 : decode cX6_token 5 = .ok (.putfield 228, 3) := by decide +kernel
theorem dX6_token_8 : decode cX6_token 8 = .ok (.aload_n 0, 1) := by decide +kernel
theorem dX6_token_9 : decode cX6_token 9 = .ok (.aload_n 0, 1) := by decide +kernel
theorem dX6_token_10 : decode cX6_token 10 = .ok (.getfield 228, 3) := by decide +kernel
theorem dX6_token_13 : decode cX6_token 13 = .ok (.invokevirtual 231, 3) := by decide +kernel
theorem dX6_token_16 : decode cX6_token 16 = .ok (.bipush 32, 2) := by decide +kernel
theorem dX6_token_18 : decode cX6_token 18 = .ok (.if_icmp .ne 16, 3) := by decide +kernel
theorem dX6_token_21 : decode cX6_token 21 = .ok (.aload_n 0, 1) := by decide +kernel
theorem dX6_token_22 : decode cX6_token 22 = .ok (.dup, 1) := by decide +kernel
theorem dX6_token_23 : decode cX6_token 23 = .ok (.getfield 228, 3) := by decide +kernel
theorem dX6_token_26 : decode cX6_token 26 = .ok (.iconst 1, 1) := by decide +kernel
theorem dX6_token_27 : decode cX6_token 27 = .ok (.iadd, 1) := by decide +kernel
theorem dX6_token_28 : decode cX6_token 28 = .ok (.putfield 228, 3) := by decide +kernel
theorem dX6_token_31 : decode cX6_token 31 = .ok (.goto (-23), 3) := by decide +kernel
theorem dX6_token_34 : decode cX6_token 34 = .ok (.aload_n 0, 1) := by decide +kernel
theorem dX6_token_35 : decode cX6_token 35 = .ok (.aload_n 0, 1) := by decide +kernel
theorem dX6_token_36 : decode cX6_token 36 = .ok (.getfield 228, 3) := by decide +kernel
theorem dX6_token_39 : decode cX6_token 39 = .ok (.invokevirtual 231, 3) := by decide +kernel
theorem dX6_token_42 : decode cX6_token 42 = .ok (.istore_n 1, 1) := by decide +kernel
theorem dX6_token_43 : decode cX6_token 43 = .ok (.aload_n 0, 1) := by decide +kernel
theorem dX6_token_44 : decode cX6_token 44 = .ok (.aload_n 0, 1) := by decide +kernel
theorem dX6_token_45 : decode cX6_token 45 = .ok (.getfield 228, 3) := by decide +kernel
theorem dX6_token_48 : decode cX6_token 48 = .ok (.putfield 225, 3) := by decide +kernel
theorem dX6_token_51 : decode cX6_token 51 = .ok (.aload_n 0, 1) := by decide +kernel
theorem dX6_token_52 : decode cX6_token 52 = .ok (.iconst 0, 1) := by decide +kernel
theorem dX6_token_53 : decode cX6_token 53 = .ok (.putfield 234, 3) := by decide +kernel
theorem dX6_token_56 : decode cX6_token 56 = .ok (.iload_n 1, 1) := by decide +kernel
theorem dX6_token_57 : decode cX6_token 57 = .ok (.ifCond .ge 11, 3) := by decide +kernel
theorem dX6_token_60 : decode cX6_token 60 = .ok (.aload_n 0, 1) := by decide +kernel
theorem dX6_token_61 : decode cX6_token 61 = .ok (.iconst 0, 1) := by decide +kernel
theorem dX6_token_62 : decode cX6_token 62 = .ok (.putfield 237, 3) := by decide +kernel
theorem dX6_token_65 : decode cX6_token 65 = .ok (.goto 141, 3) := by decide +kernel
theorem dX6_token_68 : decode cX6_token 68 = .ok (.iload_n 1, 1) := by decide +kernel
theorem dX6_token_69 : decode cX6_token 69 = .ok (.bipush 97, 2) := by decide +kernel
theorem dX6_token_71 : decode cX6_token 71 = .ok (.bipush 122, 2) := by decide +kernel
theorem dX6_token_73 : decode cX6_token 73 = .ok (.invokestatic 70, 3) := by decide +kernel
theorem dX6_token_76 : decode cX6_token 76 = .ok (.ifCond .eq 39, 3) := by decide +kernel
theorem dX6_token_79 : decode cX6_token 79 = .ok (.aload_n 0, 1) := by decide +kernel
theorem dX6_token_80 : decode cX6_token 80 = .ok (.iconst 1, 1) := by decide +kernel
theorem dX6_token_81 : decode cX6_token 81 = .ok (.putfield 237, 3) := by decide +kernel
theorem dX6_token_84 : decode cX6_token 84 = .ok (.aload_n 0, 1) := by decide +kernel
theorem dX6_token_85 : decode cX6_token 85 = .ok (.aload_n 0, 1) := by decide +kernel
theorem dX6_token_86 : decode cX6_token 86 = .ok (.getfield 225, 3) := by decide +kernel
theorem dX6_token_89 : decode cX6_token 89 = .ok (.invokevirtual 231, 3) := by decide +kernel
theorem dX6_token_92 : decode cX6_token 92 = .ok (.bipush 97, 2) := by decide +kernel
theorem dX6_token_94 : decode cX6_token 94 = .ok (.bipush 122, 2) := by decide +kernel
theorem dX6_token_96 : decode cX6_token 96 = .ok (.invokestatic 70, 3) := by decide +kernel
theorem dX6_token_99 : decode cX6_token 99 = .ok (.ifCond .eq 107, 3) := by decide +kernel
theorem dX6_token_102 : decode cX6_token 102 = .ok (.aload_n 0, 1) := by decide +kernel
theorem dX6_token_103 : decode cX6_token 103 = .ok (.dup, 1) := by decide +kernel
theorem dX6_token_104 : decode cX6_token 104 = .ok (.getfield 225, 3) := by decide +kernel
theorem dX6_token_107 : decode cX6_token 107 = .ok (.iconst 1, 1) := by decide +kernel
theorem dX6_token_108 : decode cX6_token 108 = .ok (.iadd, 1) := by decide +kernel
theorem dX6_token_109 : decode cX6_token 109 = .ok (.putfield 225, 3) := by decide +kernel
theorem dX6_token_112 : decode cX6_token 112 = .ok (.goto (-28), 3) := by decide +kernel
theorem dX6_token_115 : decode cX6_token 115 = .ok (.iload_n 1, 1) := by decide +kernel
theorem dX6_token_116 : decode cX6_token 116 = .ok (.bipush 48, 2) := by decide +kernel
theorem dX6_token_118 : decode cX6_token 118 = .ok (.bipush 57, 2) := by decide +kernel
theorem dX6_token_120 : decode cX6_token 120 = .ok (.invokestatic 70, 3) := by decide +kernel
theorem dX6_token_123 : decode cX6_token 123 = .ok (.ifCond .eq 68, 3) := by decide +kernel
theorem dX6_token_126 : decode cX6_token 126 = .ok (.aload_n 0, 1) := by decide +kernel
theorem dX6_token_127 : decode cX6_token 127 = .ok (.iconst 2, 1) := by decide +kernel
theorem dX6_token_128 : decode cX6_token 128 = .ok (.putfield 237, 3) := by decide +kernel
theorem dX6_token_131 : decode cX6_token 131 = .ok (.aload_n 0, 1) := by decide +kernel
theorem dX6_token_132 : decode cX6_token 132 = .ok (.aload_n 0, 1) := by decide +kernel
theorem dX6_token_133 : decode cX6_token 133 = .ok (.getfield 225, 3) := by decide +kernel
theorem dX6_token_136 : decode cX6_token 136 = .ok (.invokevirtual 231, 3) := by decide +kernel
theorem dX6_token_139 : decode cX6_token 139 = .ok (.bipush 48, 2) := by decide +kernel
theorem dX6_token_141 : decode cX6_token 141 = .ok (.bipush 57, 2) := by decide +kernel
theorem dX6_token_143 : decode cX6_token 143 = .ok (.invokestatic 70, 3) := by decide +kernel
theorem dX6_token_146 : decode cX6_token 146 = .ok (.ifCond .eq 60, 3) := by decide +kernel
theorem dX6_token_149 : decode cX6_token 149 = .ok (.aload_n 0, 1) := by decide +kernel
theorem dX6_token_150 : decode cX6_token 150 = .ok (.sipush 10000, 3) := by decide +kernel
theorem dX6_token_153 : decode cX6_token 153 = .ok (.bipush 10, 2) := by decide +kernel
theorem dX6_token_155 : decode cX6_token 155 = .ok (.aload_n 0, 1) := by decide +kernel
theorem dX6_token_156 : decode cX6_token 156 = .ok (.getfield 234, 3) := by decide +kernel
theorem dX6_token_159 : decode cX6_token 159 = .ok (.imul, 1) := by decide +kernel
theorem dX6_token_160 : decode cX6_token 160 = .ok (.aload_n 0, 1) := by decide +kernel
theorem dX6_token_161 : decode cX6_token 161 = .ok (.aload_n 0, 1) := by decide +kernel
theorem dX6_token_162 : decode cX6_token 162 = .ok (.getfield 225, 3) := by decide +kernel
theorem dX6_token_165 : decode cX6_token 165 = .ok (.invokevirtual 231, 3) := by decide +kernel
theorem dX6_token_168 : decode cX6_token 168 = .ok (.iadd, 1) := by decide +kernel
theorem dX6_token_169 : decode cX6_token 169 = .ok (.bipush 48, 2) := by decide +kernel
theorem dX6_token_171 : decode cX6_token 171 = .ok (.isub, 1) := by decide +kernel
theorem dX6_token_172 : decode cX6_token 172 = .ok (.invokestatic 136, 3) := by decide +kernel
theorem dX6_token_175 : decode cX6_token 175 = .ok (.putfield 234, 3) := by decide +kernel
theorem dX6_token_178 : decode cX6_token 178 = .ok (.aload_n 0, 1) := by decide +kernel
theorem dX6_token_179 : decode cX6_token 179 = .ok (.dup, 1) := by decide +kernel
theorem dX6_token_180 : decode cX6_token 180 = .ok (.getfield 225, 3) := by decide +kernel
theorem dX6_token_183 : decode cX6_token 183 = .ok (.iconst 1, 1) := by decide +kernel
theorem dX6_token_184 : decode cX6_token 184 = .ok (.iadd, 1) := by decide +kernel
theorem dX6_token_185 : decode cX6_token 185 = .ok (.putfield 225, 3) := by decide +kernel
theorem dX6_token_188 : decode cX6_token 188 = .ok (.goto (-57), 3) := by decide +kernel
theorem dX6_token_191 : decode cX6_token 191 = .ok (.aload_n 0, 1) := by decide +kernel
theorem dX6_token_192 : decode cX6_token 192 = .ok (.iconst 3, 1) := by decide +kernel
theorem dX6_token_193 : decode cX6_token 193 = .ok (.putfield 237, 3) := by decide +kernel
theorem dX6_token_196 : decode cX6_token 196 = .ok (.aload_n 0, 1) := by decide +kernel
theorem dX6_token_197 : decode cX6_token 197 = .ok (.dup, 1) := by decide +kernel
theorem dX6_token_198 : decode cX6_token 198 = .ok (.getfield 225, 3) := by decide +kernel
theorem dX6_token_201 : decode cX6_token 201 = .ok (.iconst 1, 1) := by decide +kernel
theorem dX6_token_202 : decode cX6_token 202 = .ok (.iadd, 1) := by decide +kernel
theorem dX6_token_203 : decode cX6_token 203 = .ok (.putfield 225, 3) := by decide +kernel
theorem dX6_token_206 : decode cX6_token 206 = .ok (.return_, 1) := by decide +kernel
def bX6_token_206 (fu : Nat) (σ : mt_St) : Option (Unit × mt_St) :=
  some ((), σ)
set_option maxHeartbeats 4000000 in
set_option maxRecDepth 20000 in
theorem vX6_token_206 {K : mt_C} {fu : Nat} {r : Unit} {σf : mt_St} (hQ : mt_R K none none σf) : ∀ (σ : mt_St), mt_V K cX6_token RX6 2 1 σ 206 [] [] (bX6_token_206 fu σ = some (r, σf)) := by
  intro σ
  unfold bX6_token_206
  exact mv_vret hQ dX6_token_206
def bX6_token_131 (fu : Nat) : Nat → mt_St → Option (Unit × mt_St)
  | 0, _ => none
  | n + 1, σ =>
    mt_ask (fX6_byteAt fu σ (σ 56 9)) fun r1 =>
    mt_ask (fX6_within fu r1 (48 : Int32) (57 : Int32)) fun r2 =>
    if r2 = 0 then
      bX6_token_206 fu σ
    else
      mt_ask (fX6_byteAt fu σ (σ 56 9)) fun r3 =>
      mt_bnd (mt_up σ 56 11 (mt_min (10000 : Int32) ((((10 : Int32) * (σ 56 11)) + r3) - (48 : Int32)))) fun s5 =>
      mt_bnd (mt_up s5 56 9 ((s5 56 9) + (1 : Int32))) fun s6 =>
      bX6_token_131 fu n s6
set_option maxHeartbeats 4000000 in
set_option maxRecDepth 20000 in
theorem vX6_token_131 {K : mt_C} {fu : Nat} {r : Unit} {σf : mt_St} (hQ : mt_R K none none σf) : ∀ (n : Nat) (σ : mt_St), mt_V K cX6_token RX6 2 1 σ 131 [(0, .ref (mt_adr (kG K) 56))] [] (bX6_token_131 fu n σ = some (r, σf)) := by
  intro n
  induction n with
  | zero => intro σ; intro hP; unfold bX6_token_131 at hP; cases hP
  | succ n ih =>
    intro σ
    unfold bX6_token_131
    refine mv_aload_n 0 dX6_token_131 rfl rfl ?_
    refine mv_aload_n 0 dX6_token_132 rfl rfl ?_
    refine mg_X6_9 fl_X6_225 dX6_token_133 ?_
    refine mv_cVri (As := [.int (σ 56 9)]) (st := []) cal_X6_byteAt ins_X6_byteAt ml_X6_231 rfl (by decide) rfl rfl (by decide) rfl (Nat.le_of_ble_eq_true rfl) dX6_token_136 (fun r h => co_X6_byteAt h) (fun r1 => ?_)
    refine mv_bipush (v := 48) dX6_token_139 bp_48 ?_
    refine mv_bipush (v := 57) dX6_token_141 bp_57 ?_
    refine mv_cSri (As := [.int r1, .int (48 : Int32), .int (57 : Int32)]) (st := []) cal_X6_within sta_X6_within ml_X6_70 rfl (by decide) rfl (Nat.le_of_ble_eq_true rfl) dX6_token_143 (fun r h => co_X6_within h) (fun r2 => ?_)
    refine mv_if_eq 206 dX6_token_146 (by decide) ?_ ?_
    · refine mv_sub (lv' := []) [] rfl ?_
      exact vX6_token_206 hQ σ
    · refine mv_aload_n 0 dX6_token_149 rfl rfl ?_
      refine mv_sipush (v := 10000) dX6_token_150 sp_10000 ?_
      refine mv_bipush (v := 10) dX6_token_153 bp_10 ?_
      refine mv_aload_n 0 dX6_token_155 rfl rfl ?_
      refine mg_X6_11 fl_X6_234 dX6_token_156 ?_
      refine mv_imul dX6_token_159 ?_
      refine mv_aload_n 0 dX6_token_160 rfl rfl ?_
      refine mv_aload_n 0 dX6_token_161 rfl rfl ?_
      refine mg_X6_9 fl_X6_225 dX6_token_162 ?_
      refine mv_cVri (As := [.int (σ 56 9)]) (st := [.int ((10 : Int32) * (σ 56 11)), .int (10000 : Int32), .ref (mt_adr (kG K) 56)]) cal_X6_byteAt ins_X6_byteAt ml_X6_231 rfl (by decide) rfl rfl (by decide) rfl (Nat.le_of_ble_eq_true rfl) dX6_token_165 (fun r h => co_X6_byteAt h) (fun r3 => ?_)
      refine mv_iadd dX6_token_168 ?_
      refine mv_bipush (v := 48) dX6_token_169 bp_48 ?_
      refine mv_isub dX6_token_171 ?_
      refine mv_mmin mm_X6_136 (by decide) (Nat.le_of_ble_eq_true rfl) dX6_token_172 ?_
      refine mp_X6_11 fl_X6_234 dX6_token_175 (fun s5 => ?_)
      refine mv_aload_n 0 dX6_token_178 rfl rfl ?_
      refine mv_dup dX6_token_179 rfl ?_
      refine mg_X6_9 fl_X6_225 dX6_token_180 ?_
      refine mv_iconst (v := 1) dX6_token_183 ic_1 ?_
      refine mv_iadd dX6_token_184 ?_
      refine mp_X6_9 fl_X6_225 dX6_token_185 (fun s6 => ?_)
      refine mv_goto 131 dX6_token_188 (by decide) ?_
      exact ih s6
def bX6_token_84 (fu : Nat) : Nat → mt_St → Option (Unit × mt_St)
  | 0, _ => none
  | n + 1, σ =>
    mt_ask (fX6_byteAt fu σ (σ 56 9)) fun r1 =>
    mt_ask (fX6_within fu r1 (97 : Int32) (122 : Int32)) fun r2 =>
    if r2 = 0 then
      bX6_token_206 fu σ
    else
      mt_bnd (mt_up σ 56 9 ((σ 56 9) + (1 : Int32))) fun s3 =>
      bX6_token_84 fu n s3
set_option maxHeartbeats 4000000 in
set_option maxRecDepth 20000 in
theorem vX6_token_84 {K : mt_C} {fu : Nat} {r : Unit} {σf : mt_St} (hQ : mt_R K none none σf) : ∀ (n : Nat) (σ : mt_St), mt_V K cX6_token RX6 2 1 σ 84 [(0, .ref (mt_adr (kG K) 56))] [] (bX6_token_84 fu n σ = some (r, σf)) := by
  intro n
  induction n with
  | zero => intro σ; intro hP; unfold bX6_token_84 at hP; cases hP
  | succ n ih =>
    intro σ
    unfold bX6_token_84
    refine mv_aload_n 0 dX6_token_84 rfl rfl ?_
    refine mv_aload_n 0 dX6_token_85 rfl rfl ?_
    refine mg_X6_9 fl_X6_225 dX6_token_86 ?_
    refine mv_cVri (As := [.int (σ 56 9)]) (st := []) cal_X6_byteAt ins_X6_byteAt ml_X6_231 rfl (by decide) rfl rfl (by decide) rfl (Nat.le_of_ble_eq_true rfl) dX6_token_89 (fun r h => co_X6_byteAt h) (fun r1 => ?_)
    refine mv_bipush (v := 97) dX6_token_92 bp_97 ?_
    refine mv_bipush (v := 122) dX6_token_94 bp_122 ?_
    refine mv_cSri (As := [.int r1, .int (97 : Int32), .int (122 : Int32)]) (st := []) cal_X6_within sta_X6_within ml_X6_70 rfl (by decide) rfl (Nat.le_of_ble_eq_true rfl) dX6_token_96 (fun r h => co_X6_within h) (fun r2 => ?_)
    refine mv_if_eq 206 dX6_token_99 (by decide) ?_ ?_
    · refine mv_sub (lv' := []) [] rfl ?_
      exact vX6_token_206 hQ σ
    · refine mv_aload_n 0 dX6_token_102 rfl rfl ?_
      refine mv_dup dX6_token_103 rfl ?_
      refine mg_X6_9 fl_X6_225 dX6_token_104 ?_
      refine mv_iconst (v := 1) dX6_token_107 ic_1 ?_
      refine mv_iadd dX6_token_108 ?_
      refine mp_X6_9 fl_X6_225 dX6_token_109 (fun s3 => ?_)
      refine mv_goto 84 dX6_token_112 (by decide) ?_
      exact ih s3
def bX6_token_8 (fu : Nat) : Nat → mt_St → Option (Unit × mt_St)
  | 0, _ => none
  | n + 1, σ =>
    mt_ask (fX6_byteAt fu σ (σ 56 8)) fun r1 =>
    if r1 = (32 : Int32) then
      mt_bnd (mt_up σ 56 8 ((σ 56 8) + (1 : Int32))) fun s12 =>
      bX6_token_8 fu n s12
    else
      mt_ask (fX6_byteAt fu σ (σ 56 8)) fun r2 =>
      mt_bnd (mt_up σ 56 9 (σ 56 8)) fun s3 =>
      mt_bnd (mt_up s3 56 11 (0 : Int32)) fun s4 =>
      if 0 ≤ r2 then
        mt_ask (fX6_within fu r2 (97 : Int32) (122 : Int32)) fun r5 =>
        if r5 = 0 then
          mt_ask (fX6_within fu r2 (48 : Int32) (57 : Int32)) fun r6 =>
          if r6 = 0 then
            mt_bnd (mt_up s4 56 10 (3 : Int32)) fun s7 =>
            mt_bnd (mt_up s7 56 9 ((s7 56 9) + (1 : Int32))) fun s8 =>
            bX6_token_206 fu s8
          else
            mt_bnd (mt_up s4 56 10 (2 : Int32)) fun s9 =>
            bX6_token_131 fu fu s9
        else
          mt_bnd (mt_up s4 56 10 (1 : Int32)) fun s10 =>
          bX6_token_84 fu fu s10
      else
        mt_bnd (mt_up s4 56 10 (0 : Int32)) fun s11 =>
        bX6_token_206 fu s11
set_option maxHeartbeats 4000000 in
set_option maxRecDepth 20000 in
theorem vX6_token_8 {K : mt_C} {fu : Nat} {r : Unit} {σf : mt_St} (hQ : mt_R K none none σf) : ∀ (n : Nat) (σ : mt_St), mt_V K cX6_token RX6 2 1 σ 8 [(0, .ref (mt_adr (kG K) 56))] [] (bX6_token_8 fu n σ = some (r, σf)) := by
  intro n
  induction n with
  | zero => intro σ; intro hP; unfold bX6_token_8 at hP; cases hP
  | succ n ih =>
    intro σ
    unfold bX6_token_8
    refine mv_aload_n 0 dX6_token_8 rfl rfl ?_
    refine mv_aload_n 0 dX6_token_9 rfl rfl ?_
    refine mg_X6_8 fl_X6_228 dX6_token_10 ?_
    refine mv_cVri (As := [.int (σ 56 8)]) (st := []) cal_X6_byteAt ins_X6_byteAt ml_X6_231 rfl (by decide) rfl rfl (by decide) rfl (Nat.le_of_ble_eq_true rfl) dX6_token_13 (fun r h => co_X6_byteAt h) (fun r1 => ?_)
    refine mv_bipush (v := 32) dX6_token_16 bp_32 ?_
    refine mv_icmp_ne 34 dX6_token_18 (by decide) ?_ ?_
    · refine mv_aload_n 0 dX6_token_34 rfl rfl ?_
      refine mv_aload_n 0 dX6_token_35 rfl rfl ?_
      refine mg_X6_8 fl_X6_228 dX6_token_36 ?_
      refine mv_cVri (As := [.int (σ 56 8)]) (st := []) cal_X6_byteAt ins_X6_byteAt ml_X6_231 rfl (by decide) rfl rfl (by decide) rfl (Nat.le_of_ble_eq_true rfl) dX6_token_39 (fun r h => co_X6_byteAt h) (fun r2 => ?_)
      refine mv_istore_n (lv' := [(0, .ref (mt_adr (kG K) 56)), (1, .int r2)]) [1, 0] dX6_token_42 rfl (by decide) rfl ?_
      refine mv_aload_n 0 dX6_token_43 rfl rfl ?_
      refine mv_aload_n 0 dX6_token_44 rfl rfl ?_
      refine mg_X6_8 fl_X6_228 dX6_token_45 ?_
      refine mp_X6_9 fl_X6_225 dX6_token_48 (fun s3 => ?_)
      refine mv_aload_n 0 dX6_token_51 rfl rfl ?_
      refine mv_iconst (v := 0) dX6_token_52 ic_0 ?_
      refine mp_X6_11 fl_X6_234 dX6_token_53 (fun s4 => ?_)
      refine mv_iload_n 1 dX6_token_56 rfl rfl ?_
      refine mv_if_ge 68 dX6_token_57 (by decide) ?_ ?_
      · refine mv_iload_n 1 dX6_token_68 rfl rfl ?_
        refine mv_bipush (v := 97) dX6_token_69 bp_97 ?_
        refine mv_bipush (v := 122) dX6_token_71 bp_122 ?_
        refine mv_cSri (As := [.int r2, .int (97 : Int32), .int (122 : Int32)]) (st := []) cal_X6_within sta_X6_within ml_X6_70 rfl (by decide) rfl (Nat.le_of_ble_eq_true rfl) dX6_token_73 (fun r h => co_X6_within h) (fun r5 => ?_)
        refine mv_if_eq 115 dX6_token_76 (by decide) ?_ ?_
        · refine mv_iload_n 1 dX6_token_115 rfl rfl ?_
          refine mv_bipush (v := 48) dX6_token_116 bp_48 ?_
          refine mv_bipush (v := 57) dX6_token_118 bp_57 ?_
          refine mv_cSri (As := [.int r2, .int (48 : Int32), .int (57 : Int32)]) (st := []) cal_X6_within sta_X6_within ml_X6_70 rfl (by decide) rfl (Nat.le_of_ble_eq_true rfl) dX6_token_120 (fun r h => co_X6_within h) (fun r6 => ?_)
          refine mv_if_eq 191 dX6_token_123 (by decide) ?_ ?_
          · refine mv_aload_n 0 dX6_token_191 rfl rfl ?_
            refine mv_iconst (v := 3) dX6_token_192 ic_3 ?_
            refine mp_X6_10 fl_X6_237 dX6_token_193 (fun s7 => ?_)
            refine mv_aload_n 0 dX6_token_196 rfl rfl ?_
            refine mv_dup dX6_token_197 rfl ?_
            refine mg_X6_9 fl_X6_225 dX6_token_198 ?_
            refine mv_iconst (v := 1) dX6_token_201 ic_1 ?_
            refine mv_iadd dX6_token_202 ?_
            refine mp_X6_9 fl_X6_225 dX6_token_203 (fun s8 => ?_)
            refine mv_sub (lv' := []) [] rfl ?_
            exact vX6_token_206 hQ s8
          · refine mv_aload_n 0 dX6_token_126 rfl rfl ?_
            refine mv_iconst (v := 2) dX6_token_127 ic_2 ?_
            refine mp_X6_10 fl_X6_237 dX6_token_128 (fun s9 => ?_)
            refine mv_sub (lv' := [(0, .ref (mt_adr (kG K) 56))]) [0] rfl ?_
            exact vX6_token_131 hQ fu s9
        · refine mv_aload_n 0 dX6_token_79 rfl rfl ?_
          refine mv_iconst (v := 1) dX6_token_80 ic_1 ?_
          refine mp_X6_10 fl_X6_237 dX6_token_81 (fun s10 => ?_)
          refine mv_sub (lv' := [(0, .ref (mt_adr (kG K) 56))]) [0] rfl ?_
          exact vX6_token_84 hQ fu s10
      · refine mv_aload_n 0 dX6_token_60 rfl rfl ?_
        refine mv_iconst (v := 0) dX6_token_61 ic_0 ?_
        refine mp_X6_10 fl_X6_237 dX6_token_62 (fun s11 => ?_)
        refine mv_goto 206 dX6_token_65 (by decide) ?_
        refine mv_sub (lv' := []) [] rfl ?_
        exact vX6_token_206 hQ s11
    · refine mv_aload_n 0 dX6_token_21 rfl rfl ?_
      refine mv_dup dX6_token_22 rfl ?_
      refine mg_X6_8 fl_X6_228 dX6_token_23 ?_
      refine mv_iconst (v := 1) dX6_token_26 ic_1 ?_
      refine mv_iadd dX6_token_27 ?_
      refine mp_X6_8 fl_X6_228 dX6_token_28 (fun s12 => ?_)
      refine mv_goto 8 dX6_token_31 (by decide) ?_
      exact ih s12
def fX6_token (fu : Nat) (σ : mt_St) : Option (Unit × mt_St) :=
  mt_bnd (mt_up σ 56 8 (σ 56 9)) fun s1 =>
  bX6_token_8 fu fu s1
set_option maxHeartbeats 4000000 in
set_option maxRecDepth 20000 in
theorem vX6_token {K : mt_C} {fu : Nat} {σ : mt_St} {r : Unit} {σf : mt_St} (hQ : mt_R K none none σf) : mt_V K cX6_token RX6 2 1 σ 0 [(0, .ref (mt_adr (kG K) 56))] [] (fX6_token fu σ = some (r, σf)) := by
  unfold fX6_token
  refine mv_aload_n 0 dX6_token_0 rfl rfl ?_
  refine mv_aload_n 0 dX6_token_1 rfl rfl ?_
  refine mg_X6_9 fl_X6_225 dX6_token_2 ?_
  refine mp_X6_8 fl_X6_228 dX6_token_5 (fun s1 => ?_)
  exact vX6_token_8 hQ fu s1
theorem co_X6_token {l : Launch} {G : mt_G} {fu : Nat} {σ : mt_St} {r : Unit} {σf : mt_St}  (h : fX6_token fu σ = some (r, σf)) : mt_Con l G yX6_token cX6_token 2 none 1 [.ref (mt_adr G 56)] σ none σf :=
  mt_con (by decide) (Nat.le_of_ble_eq_true rfl) (fun K hl hG hQ => by subst hl; subst hG; exact fun _ => vX6_token  hQ h)
theorem dX6_isWord_0 : decode cX6_isWord 0 = .ok (.aload_n 0, 1) := by decide +kernel
theorem dX6_isWord_1 : decode cX6_isWord 1 = .ok (.getfield 237, 3) := by decide +kernel
theorem dX6_isWord_4 : decode cX6_isWord 4 = .ok (.iconst 1, 1) := by decide +kernel
theorem dX6_isWord_5 : decode cX6_isWord 5 = .ok (.if_icmp .ne 23, 3) := by decide +kernel
theorem dX6_isWord_8 : decode cX6_isWord 8 = .ok (.aload_n 0, 1) := by decide +kernel
theorem dX6_isWord_9 : decode cX6_isWord 9 = .ok (.getfield 225, 3) := by decide +kernel
theorem dX6_isWord_12 : decode cX6_isWord 12 = .ok (.aload_n 0, 1) := by decide +kernel
theorem dX6_isWord_13 : decode cX6_isWord 13 = .ok (.getfield 228, 3) := by decide +kernel
theorem dX6_isWord_16 : decode cX6_isWord 16 = .ok (.isub, 1) := by decide +kernel
theorem dX6_isWord_17 : decode cX6_isWord 17 = .ok (.aload_n 1, 1) := by decide +kernel
theorem dX6_isWord_18 : decode cX6_isWord 18 = .ok (.invokevirtual 240, 3) := by decide +kernel
theorem dX6_isWord_21 : decode cX6_isWord 21 = .ok (.if_icmp .ne 7, 3) := by decide +kernel
theorem dX6_isWord_24 : decode cX6_isWord 24 = .ok (.iconst 1, 1) := by decide +kernel
theorem dX6_isWord_25 : decode cX6_isWord 25 = .ok (.goto 4, 3) := by decide +kernel
theorem dX6_isWord_28 : decode cX6_isWord 28 = .ok (.iconst 0, 1) := by decide +kernel
theorem dX6_isWord_29 : decode cX6_isWord 29 = .ok (.istore_n 2, 1) := by decide +kernel
theorem dX6_isWord_30 : decode cX6_isWord 30 = .ok (.iconst 0, 1) := by decide +kernel
theorem dX6_isWord_31 : decode cX6_isWord 31 = .ok (.istore_n 3, 1) := by decide +kernel
theorem dX6_isWord_32 : decode cX6_isWord 32 = .ok (.iload_n 3, 1) := by decide +kernel
theorem dX6_isWord_33 : decode cX6_isWord 33 = .ok (.aload_n 1, 1) := by decide +kernel
theorem dX6_isWord_34 : decode cX6_isWord 34 = .ok (.invokevirtual 240, 3) := by decide +kernel
theorem dX6_isWord_37 : decode cX6_isWord 37 = .ok (.if_icmp .ge 38, 3) := by decide +kernel
theorem dX6_isWord_40 : decode cX6_isWord 40 = .ok (.iload_n 2, 1) := by decide +kernel
theorem dX6_isWord_41 : decode cX6_isWord 41 = .ok (.ifCond .eq 34, 3) := by decide +kernel
theorem dX6_isWord_44 : decode cX6_isWord 44 = .ok (.aload_n 0, 1) := by decide +kernel
theorem dX6_isWord_45 : decode cX6_isWord 45 = .ok (.getfield 22, 3) := by decide +kernel
theorem dX6_isWord_48 : decode cX6_isWord 48 = .ok (.aload_n 0, 1) := by decide +kernel
theorem dX6_isWord_49 : decode cX6_isWord 49 = .ok (.getfield 228, 3) := by decide +kernel
theorem dX6_isWord_52 : decode cX6_isWord 52 = .ok (.iload_n 3, 1) := by decide +kernel
theorem dX6_isWord_53 : decode cX6_isWord 53 = .ok (.iadd, 1) := by decide +kernel
theorem dX6_isWord_54 : decode cX6_isWord 54 = .ok (.iaload, 1) := by decide +kernel
theorem dX6_isWord_55 : decode cX6_isWord 55 = .ok (.aload_n 1, 1) := by decide +kernel
theorem dX6_isWord_56 : decode cX6_isWord 56 = .ok (.iload_n 3, 1) := by decide +kernel
theorem dX6_isWord_57 : decode cX6_isWord 57 = .ok (.invokevirtual 243, 3) := by decide +kernel
theorem dX6_isWord_60 : decode cX6_isWord 60 = .ok (.if_icmp .ne 7, 3) := by decide +kernel
theorem dX6_isWord_63 : decode cX6_isWord 63 = .ok (.iconst 1, 1) := by decide +kernel
theorem dX6_isWord_64 : decode cX6_isWord 64 = .ok (.goto 4, 3) := by decide +kernel
theorem dX6_isWord_67 : decode cX6_isWord 67 = .ok (.iconst 0, 1) := by decide +kernel
theorem dX6_isWord_68 : decode cX6_isWord 68 = .ok (.istore_n 2, 1) := by decide +kernel
theorem dX6_isWord_69 : decode cX6_isWord 69 = .ok (.iinc 3 1, 3) := by decide +kernel
theorem dX6_isWord_72 : decode cX6_isWord 72 = .ok (.goto (-40), 3) := by decide +kernel
theorem dX6_isWord_75 : decode cX6_isWord 75 = .ok (.iload_n 2, 1) := by decide +kernel
theorem dX6_isWord_76 : decode cX6_isWord 76 = .ok (.ireturn, 1) := by decide +kernel
def bX6_isWord_75 (fu : Nat) (a1 : Nat) (σ : mt_St) (x2 : Int32) : Option Int32 :=
  mt_chk (mt_b01 x2) (some x2)
set_option maxHeartbeats 4000000 in
set_option maxRecDepth 20000 in
theorem vX6_isWord_75 {K : mt_C} {fu : Nat} {a1 : Nat} {σ : mt_St} {r : Int32} (ha1 : a1 < 13) (hQ : mt_R K (some .boolean) (some (.int r)) σ) : ∀ (x2 : Int32), mt_V K cX6_isWord RX6 4 4 σ 75 [(2, .int x2)] [] (bX6_isWord_75 fu a1 σ x2 = some r) := by
  intro x2
  unfold bX6_isWord_75
  refine mv_iload_n 0 dX6_isWord_75 rfl rfl ?_
  exact mv_zretr hQ dX6_isWord_76
def bX6_isWord_68 (fu : Nat) (a1 : Nat) (σ : mt_St) (k32 : Int32 → Int32 → Option Int32) (x3 : Int32) (y0 : Int32) : Option Int32 :=
  k32 y0 (x3 + 1)
set_option maxHeartbeats 4000000 in
set_option maxRecDepth 20000 in
theorem vX6_isWord_68 {K : mt_C} {fu : Nat} {a1 : Nat} {σ : mt_St} {r : Int32} (ha1 : a1 < 13) (hQ : mt_R K (some .boolean) (some (.int r)) σ) {k32 : Int32 → Int32 → Option Int32} (hk32 : ∀ (x2 : Int32) (x3 : Int32), mt_V K cX6_isWord RX6 4 4 σ 32 [(0, .ref (mt_adr (kG K) 56)), (1, .ref (mt_aK (kG K) a1)), (2, .int x2), (3, .int x3)] [] (k32 x2 x3 = some r)) : ∀ (x3 : Int32) (y0 : Int32), mt_V K cX6_isWord RX6 4 4 σ 68 [(0, .ref (mt_adr (kG K) 56)), (1, .ref (mt_aK (kG K) a1)), (3, .int x3)] [.int y0] (bX6_isWord_68 fu a1 σ k32 x3 y0 = some r) := by
  intro x3 y0
  unfold bX6_isWord_68
  refine mv_istore_n (lv' := [(0, .ref (mt_adr (kG K) 56)), (1, .ref (mt_aK (kG K) a1)), (2, .int y0), (3, .int x3)]) [1, 2, 0, 3] dX6_isWord_68 rfl (by decide) rfl ?_
  refine mv_iinc (k0 := 3) (v := x3 + 1) (lv' := [(0, .ref (mt_adr (kG K) 56)), (1, .ref (mt_aK (kG K) a1)), (2, .int y0), (3, .int (x3 + 1))]) [1, 2, 3, 0] dX6_isWord_69 rfl (mt_inc ic_1) (by decide) rfl ?_
  refine mv_goto 32 dX6_isWord_72 (by decide) ?_
  exact hk32 y0 (x3 + 1)
def bX6_isWord_32 (fu : Nat) (a1 : Nat) (σ : mt_St) : Nat → Int32 → Int32 → Option Int32
  | 0, _, _ => none
  | n + 1, x2, x3 =>
    mt_ask (fS_len a1) fun r1 =>
    if r1 ≤ x3 then
      bX6_isWord_75 fu a1 σ x2
    else
      if x2 = 0 then
        bX6_isWord_75 fu a1 σ x2
      else
        mt_chk (mt_in ((σ 56 8) + x3) 120) <|
        mt_ask (fS_chr a1 x3) fun r2 =>
        if (σ 61 (Int32.toNatClampNeg ((σ 56 8) + x3))) = r2 then
          bX6_isWord_68 fu a1 σ (fun x2 x3 => bX6_isWord_32 fu a1 σ n x2 x3) x3 (1 : Int32)
        else
          bX6_isWord_68 fu a1 σ (fun x2 x3 => bX6_isWord_32 fu a1 σ n x2 x3) x3 (0 : Int32)
set_option maxHeartbeats 4000000 in
set_option maxRecDepth 20000 in
theorem vX6_isWord_32 {K : mt_C} {fu : Nat} {a1 : Nat} {σ : mt_St} {r : Int32} (ha1 : a1 < 13) (hQ : mt_R K (some .boolean) (some (.int r)) σ) : ∀ (n : Nat) (x2 : Int32) (x3 : Int32), mt_V K cX6_isWord RX6 4 4 σ 32 [(0, .ref (mt_adr (kG K) 56)), (1, .ref (mt_aK (kG K) a1)), (2, .int x2), (3, .int x3)] [] (bX6_isWord_32 fu a1 σ n x2 x3 = some r) := by
  intro n
  induction n with
  | zero => intro x2 x3; intro hP; unfold bX6_isWord_32 at hP; cases hP
  | succ n ih =>
    intro x2 x3
    unfold bX6_isWord_32
    refine mv_iload_n 3 dX6_isWord_32 rfl rfl ?_
    refine mv_aload_n 1 dX6_isWord_33 rfl rfl ?_
    refine mv_len ha1 ml_X6_240 (by decide) (Nat.le_of_ble_eq_true rfl) dX6_isWord_34 (fun r1 => ?_)
    refine mv_icmp_ge 75 dX6_isWord_37 (by decide) ?_ ?_
    · refine mv_sub (lv' := [(2, .int x2)]) [2] rfl ?_
      exact vX6_isWord_75 ha1 hQ x2
    · refine mv_iload_n 2 dX6_isWord_40 rfl rfl ?_
      refine mv_if_eq 75 dX6_isWord_41 (by decide) ?_ ?_
      · refine mv_sub (lv' := [(2, .int x2)]) [2] rfl ?_
        exact vX6_isWord_75 ha1 hQ x2
      · refine mv_aload_n 0 dX6_isWord_44 rfl rfl ?_
        refine mg_X6_6 fl_X6_22 dX6_isWord_45 ?_
        refine mv_aload_n 0 dX6_isWord_48 rfl rfl ?_
        refine mg_X6_8 fl_X6_228 dX6_isWord_49 ?_
        refine mv_iload_n 3 dX6_isWord_52 rfl rfl ?_
        refine mv_iadd dX6_isWord_53 ?_
        refine mv_iald 120 rfl rfl dX6_isWord_54 ?_
        refine mv_aload_n 1 dX6_isWord_55 rfl rfl ?_
        refine mv_iload_n 3 dX6_isWord_56 rfl rfl ?_
        refine mv_chr ha1 ml_X6_243 (by decide) (Nat.le_of_ble_eq_true rfl) dX6_isWord_57 (fun r2 => ?_)
        refine mv_icmp_ne 67 dX6_isWord_60 (by decide) ?_ ?_
        · refine mv_iconst (v := 0) dX6_isWord_67 ic_0 ?_
          refine mv_sub (lv' := [(0, .ref (mt_adr (kG K) 56)), (1, .ref (mt_aK (kG K) a1)), (3, .int x3)]) [0, 1, 3] rfl ?_
          exact vX6_isWord_68 ha1 hQ (fun x2 x3 => ih x2 x3) x3 (0 : Int32)
        · refine mv_iconst (v := 1) dX6_isWord_63 ic_1 ?_
          refine mv_goto 68 dX6_isWord_64 (by decide) ?_
          refine mv_sub (lv' := [(0, .ref (mt_adr (kG K) 56)), (1, .ref (mt_aK (kG K) a1)), (3, .int x3)]) [0, 1, 3] rfl ?_
          exact vX6_isWord_68 ha1 hQ (fun x2 x3 => ih x2 x3) x3 (1 : Int32)
def bX6_isWord_29 (fu : Nat) (a1 : Nat) (σ : mt_St) (y0 : Int32) : Option Int32 :=
  bX6_isWord_32 fu a1 σ fu y0 (0 : Int32)
set_option maxHeartbeats 4000000 in
set_option maxRecDepth 20000 in
theorem vX6_isWord_29 {K : mt_C} {fu : Nat} {a1 : Nat} {σ : mt_St} {r : Int32} (ha1 : a1 < 13) (hQ : mt_R K (some .boolean) (some (.int r)) σ) : ∀ (y0 : Int32), mt_V K cX6_isWord RX6 4 4 σ 29 [(0, .ref (mt_adr (kG K) 56)), (1, .ref (mt_aK (kG K) a1))] [.int y0] (bX6_isWord_29 fu a1 σ y0 = some r) := by
  intro y0
  unfold bX6_isWord_29
  refine mv_istore_n (lv' := [(0, .ref (mt_adr (kG K) 56)), (1, .ref (mt_aK (kG K) a1)), (2, .int y0)]) [1, 2, 0] dX6_isWord_29 rfl (by decide) rfl ?_
  refine mv_iconst (v := 0) dX6_isWord_30 ic_0 ?_
  refine mv_istore_n (lv' := [(0, .ref (mt_adr (kG K) 56)), (1, .ref (mt_aK (kG K) a1)), (2, .int y0), (3, .int (0 : Int32))]) [1, 2, 3, 0] dX6_isWord_31 rfl (by decide) rfl ?_
  exact vX6_isWord_32 ha1 hQ fu y0 (0 : Int32)
def bX6_isWord_28 (fu : Nat) (a1 : Nat) (σ : mt_St) : Option Int32 :=
  bX6_isWord_29 fu a1 σ (0 : Int32)
set_option maxHeartbeats 4000000 in
set_option maxRecDepth 20000 in
theorem vX6_isWord_28 {K : mt_C} {fu : Nat} {a1 : Nat} {σ : mt_St} {r : Int32} (ha1 : a1 < 13) (hQ : mt_R K (some .boolean) (some (.int r)) σ) : mt_V K cX6_isWord RX6 4 4 σ 28 [(0, .ref (mt_adr (kG K) 56)), (1, .ref (mt_aK (kG K) a1))] [] (bX6_isWord_28 fu a1 σ = some r) := by
  unfold bX6_isWord_28
  refine mv_iconst (v := 0) dX6_isWord_28 ic_0 ?_
  exact vX6_isWord_29 ha1 hQ (0 : Int32)
def fX6_isWord (fu : Nat) (σ : mt_St) (a1 : Nat) : Option Int32 :=
  if (σ 56 10) = (1 : Int32) then
    mt_ask (fS_len a1) fun r1 =>
    if ((σ 56 9) - (σ 56 8)) = r1 then
      bX6_isWord_29 fu a1 σ (1 : Int32)
    else
      bX6_isWord_28 fu a1 σ
  else
    bX6_isWord_28 fu a1 σ
set_option maxHeartbeats 4000000 in
set_option maxRecDepth 20000 in
theorem vX6_isWord {K : mt_C} {fu : Nat} {σ : mt_St} {a1 : Nat} {r : Int32} (ha1 : a1 < 13) (hQ : mt_R K (some .boolean) (some (.int r)) σ) : mt_V K cX6_isWord RX6 4 4 σ 0 [(0, .ref (mt_adr (kG K) 56)), (1, .ref (mt_aK (kG K) a1))] [] (fX6_isWord fu σ a1 = some r) := by
  unfold fX6_isWord
  refine mv_aload_n 0 dX6_isWord_0 rfl rfl ?_
  refine mg_X6_10 fl_X6_237 dX6_isWord_1 ?_
  refine mv_iconst (v := 1) dX6_isWord_4 ic_1 ?_
  refine mv_icmp_ne 28 dX6_isWord_5 (by decide) ?_ ?_
  · exact vX6_isWord_28 ha1 hQ
  · refine mv_aload_n 0 dX6_isWord_8 rfl rfl ?_
    refine mg_X6_9 fl_X6_225 dX6_isWord_9 ?_
    refine mv_aload_n 0 dX6_isWord_12 rfl rfl ?_
    refine mg_X6_8 fl_X6_228 dX6_isWord_13 ?_
    refine mv_isub dX6_isWord_16 ?_
    refine mv_aload_n 1 dX6_isWord_17 rfl rfl ?_
    refine mv_len ha1 ml_X6_240 (by decide) (Nat.le_of_ble_eq_true rfl) dX6_isWord_18 (fun r1 => ?_)
    refine mv_icmp_ne 28 dX6_isWord_21 (by decide) ?_ ?_
    · exact vX6_isWord_28 ha1 hQ
    · refine mv_iconst (v := 1) dX6_isWord_24 ic_1 ?_
      refine mv_goto 29 dX6_isWord_25 (by decide) ?_
      exact vX6_isWord_29 ha1 hQ (1 : Int32)
theorem co_X6_isWord {l : Launch} {G : mt_G} {fu : Nat} {σ : mt_St} {a1 : Nat} {r : Int32} (ha1 : a1 < 13) (h : fX6_isWord fu σ a1 = some r) : mt_Con l G yX6_isWord cX6_isWord 4 (some .boolean) 4 [.ref (mt_adr G 56), .ref (mt_aK G a1)] σ (some (.int r)) σ :=
  mt_con (by decide) (Nat.le_of_ble_eq_true rfl) (fun K hl hG hQ => by subst hl; subst hG; exact fun _ => vX6_isWord ha1 hQ h)
theorem dX6_must_0 : decode cX6_must 0 = .ok (.aload_n 0, 1) := by decide +kernel
theorem dX6_must_1 : decode cX6_must 1 = .ok (.aload_n 0, 1) := by decide +kernel
theorem dX6_must_2 : decode cX6_must 2 = .ok (.getfield 247, 3) := by decide +kernel
theorem dX6_must_5 : decode cX6_must 5 = .ok (.ifCond .ne 7, 3) := by decide +kernel
theorem dX6_must_8 : decode cX6_must 8 = .ok (.iload_n 1, 1) := by decide +kernel
theorem dX6_must_9 : decode cX6_must 9 = .ok (.ifCond .ne 7, 3) := by decide +kernel
theorem dX6_must_12 : decode cX6_must 12 = .ok (.iconst 1, 1) := by decide +kernel
theorem dX6_must_13 : decode cX6_must 13 = .ok (.goto 4, 3) := by decide +kernel
theorem dX6_must_16 : decode cX6_must 16 = .ok (.iconst 0, 1) := by decide +kernel
theorem dX6_must_17 : decode cX6_must 17 = .ok (.putfield 247, 3) := by decide +kernel
theorem dX6_must_20 : decode cX6_must 20 = .ok (.aload_n 0, 1) := by decide +kernel
theorem dX6_must_21 : decode cX6_must 21 = .ok (.getfield 247, 3) := by decide +kernel
theorem dX6_must_24 : decode cX6_must 24 = .ok (.ifCond .ne 7, 3) := by decide +kernel
theorem dX6_must_27 : decode cX6_must 27 = .ok (.aload_n 0, 1) := by decide +kernel
theorem dX6_must_28 : decode cX6_must 28 = .ok (.invokevirtual 251, 3) := by decide +kernel
theorem dX6_must_31 : decode cX6_must 31 = .ok (.return_, 1) := by decide +kernel
def bX6_must_31 (fu : Nat) (σ : mt_St) : Option (Unit × mt_St) :=
  some ((), σ)
set_option maxHeartbeats 4000000 in
set_option maxRecDepth 20000 in
theorem vX6_must_31 {K : mt_C} {fu : Nat} {r : Unit} {σf : mt_St} (hQ : mt_R K none none σf) : ∀ (σ : mt_St), mt_V K cX6_must RX6 2 2 σ 31 [] [] (bX6_must_31 fu σ = some (r, σf)) := by
  intro σ
  unfold bX6_must_31
  exact mv_vret hQ dX6_must_31
def bX6_must_17 (fu : Nat) (σ : mt_St) (y0 : Int32) : Option (Unit × mt_St) :=
  mt_chk (mt_b01 y0) <|
  mt_bnd (mt_up σ 56 12 y0) fun s1 =>
  if (s1 56 12) = 0 then
    mt_call (fX6_token fu s1) fun _ s3 =>
    bX6_must_31 fu s3
  else
    bX6_must_31 fu s1
set_option maxHeartbeats 4000000 in
set_option maxRecDepth 20000 in
theorem vX6_must_17 {K : mt_C} {fu : Nat} {r : Unit} {σf : mt_St} (hQ : mt_R K none none σf) : ∀ (σ : mt_St) (y0 : Int32), mt_V K cX6_must RX6 2 2 σ 17 [(0, .ref (mt_adr (kG K) 56))] [.int y0, .ref (mt_adr (kG K) 56)] (bX6_must_17 fu σ y0 = some (r, σf)) := by
  intro σ y0
  unfold bX6_must_17
  refine mzc_X6_12 fl_X6_247 dX6_must_17 (fun s1 => ?_)
  refine mv_aload_n 0 dX6_must_20 rfl rfl ?_
  refine mg_X6_12 fl_X6_247 dX6_must_21 ?_
  refine mv_if_ne 31 dX6_must_24 (by decide) ?_ ?_
  · refine mv_sub (lv' := []) [] rfl ?_
    exact vX6_must_31 hQ s1
  · refine mv_aload_n 0 dX6_must_27 rfl rfl ?_
    refine mv_cVwv (As := []) (st := []) cal_X6_token ins_X6_token ml_X6_251 rfl (by decide) rfl rfl (by decide) rfl (Nat.le_of_ble_eq_true rfl) dX6_must_28 (fun r s h => co_X6_token h) (fun r2 s3 => ?_)
    refine mv_sub (lv' := []) [] rfl ?_
    exact vX6_must_31 hQ s3
def bX6_must_12 (fu : Nat) (σ : mt_St) : Option (Unit × mt_St) :=
  bX6_must_17 fu σ (1 : Int32)
set_option maxHeartbeats 4000000 in
set_option maxRecDepth 20000 in
theorem vX6_must_12 {K : mt_C} {fu : Nat} {r : Unit} {σf : mt_St} (hQ : mt_R K none none σf) : ∀ (σ : mt_St), mt_V K cX6_must RX6 2 2 σ 12 [(0, .ref (mt_adr (kG K) 56))] [.ref (mt_adr (kG K) 56)] (bX6_must_12 fu σ = some (r, σf)) := by
  intro σ
  unfold bX6_must_12
  refine mv_iconst (v := 1) dX6_must_12 ic_1 ?_
  refine mv_goto 17 dX6_must_13 (by decide) ?_
  exact vX6_must_17 hQ σ (1 : Int32)
def fX6_must (fu : Nat) (σ : mt_St) (a1 : Int32) : Option (Unit × mt_St) :=
  if (σ 56 12) = 0 then
    if a1 = 0 then
      bX6_must_12 fu σ
    else
      bX6_must_17 fu σ (0 : Int32)
  else
    bX6_must_12 fu σ
set_option maxHeartbeats 4000000 in
set_option maxRecDepth 20000 in
theorem vX6_must {K : mt_C} {fu : Nat} {σ : mt_St} {a1 : Int32} {r : Unit} {σf : mt_St} (hQ : mt_R K none none σf) : mt_V K cX6_must RX6 2 2 σ 0 [(0, .ref (mt_adr (kG K) 56)), (1, .int a1)] [] (fX6_must fu σ a1 = some (r, σf)) := by
  unfold fX6_must
  refine mv_aload_n 0 dX6_must_0 rfl rfl ?_
  refine mv_aload_n 0 dX6_must_1 rfl rfl ?_
  refine mg_X6_12 fl_X6_247 dX6_must_2 ?_
  refine mv_if_ne 12 dX6_must_5 (by decide) ?_ ?_
  · refine mv_sub (lv' := [(0, .ref (mt_adr (kG K) 56))]) [0] rfl ?_
    exact vX6_must_12 hQ σ
  · refine mv_iload_n 1 dX6_must_8 rfl rfl ?_
    refine mv_if_ne 16 dX6_must_9 (by decide) ?_ ?_
    · refine mv_iconst (v := 0) dX6_must_16 ic_0 ?_
      refine mv_sub (lv' := [(0, .ref (mt_adr (kG K) 56))]) [0] rfl ?_
      exact vX6_must_17 hQ σ (0 : Int32)
    · refine mv_sub (lv' := [(0, .ref (mt_adr (kG K) 56))]) [0] rfl ?_
      exact vX6_must_12 hQ σ
theorem co_X6_must {l : Launch} {G : mt_G} {fu : Nat} {σ : mt_St} {a1 : Int32} {r : Unit} {σf : mt_St}  (h : fX6_must fu σ a1 = some (r, σf)) : mt_Con l G yX6_must cX6_must 2 none 2 [.ref (mt_adr G 56), .int a1] σ none σf :=
  mt_con (by decide) (Nat.le_of_ble_eq_true rfl) (fun K hl hG hQ => by subst hl; subst hG; exact fun _ => vX6_must  hQ h)
theorem dX6_number_0 : decode cX6_number 0 = .ok (.aload_n 0, 1) := by decide +kernel
theorem dX6_number_1 : decode cX6_number 1 = .ok (.getfield 234, 3) := by decide +kernel
theorem dX6_number_4 : decode cX6_number 4 = .ok (.istore_n 3, 1) := by decide +kernel
theorem dX6_number_5 : decode cX6_number 5 = .ok (.aload_n 0, 1) := by decide +kernel
theorem dX6_number_6 : decode cX6_number 6 = .ok (.aload_n 0, 1) := by decide +kernel
theorem dX6_number_7 : decode cX6_number 7 = .ok (.getfield 237, 3) := by decide +kernel
theorem dX6_number_10 : decode cX6_number 10 = .ok (.iconst 2, 1) := by decide +kernel
theorem dX6_number_11 : decode cX6_number 11 = .ok (.if_icmp .ne 16, 3) := by decide +kernel
theorem dX6_number_14 : decode cX6_number 14 = .ok (.iload_n 3, 1) := by decide +kernel
theorem dX6_number_15 : decode cX6_number 15 = .ok (.iload_n 1, 1) := by decide +kernel
theorem dX6_number_16 : decode cX6_number 16 = .ok (.iload_n 2, 1) := by decide +kernel
theorem dX6_number_17 : decode cX6_number 17 = .ok (.invokestatic 70, 3) := by decide +kernel
theorem dX6_number_20 : decode cX6_number 20 = .ok (.ifCond .eq 7, 3) := by decide +kernel
theorem dX6_number_23 : decode cX6_number 23 = .ok (.iconst 1, 1) := by decide +kernel
theorem dX6_number_24 : decode cX6_number 24 = .ok (.goto 4, 3) := by decide +kernel
theorem dX6_number_27 : decode cX6_number 27 = .ok (.iconst 0, 1) := by decide +kernel
theorem dX6_number_28 : decode cX6_number 28 = .ok (.invokevirtual 254, 3) := by decide +kernel
theorem dX6_number_31 : decode cX6_number 31 = .ok (.iload_n 3, 1) := by decide +kernel
theorem dX6_number_32 : decode cX6_number 32 = .ok (.ireturn, 1) := by decide +kernel
def bX6_number_28 (fu : Nat) (σ : mt_St) (x3 : Int32) (y0 : Int32) : Option (Int32 × mt_St) :=
  mt_call (fX6_must fu σ y0) fun _ s2 =>
  some (x3, s2)
set_option maxHeartbeats 4000000 in
set_option maxRecDepth 20000 in
theorem vX6_number_28 {K : mt_C} {fu : Nat} {r : Int32} {σf : mt_St} (hQ : mt_R K (some .int) (some (.int r)) σf) : ∀ (σ : mt_St) (x3 : Int32) (y0 : Int32), mt_V K cX6_number RX6 4 3 σ 28 [(3, .int x3)] [.int y0, .ref (mt_adr (kG K) 56)] (bX6_number_28 fu σ x3 y0 = some (r, σf)) := by
  intro σ x3 y0
  unfold bX6_number_28
  refine mv_cVwv (As := [.int y0]) (st := []) cal_X6_must ins_X6_must ml_X6_254 rfl (by decide) rfl rfl (by decide) rfl (Nat.le_of_ble_eq_true rfl) dX6_number_28 (fun r s h => co_X6_must h) (fun r1 s2 => ?_)
  refine mv_iload_n 0 dX6_number_31 rfl rfl ?_
  exact mv_iret hQ dX6_number_32
def bX6_number_27 (fu : Nat) (σ : mt_St) (x3 : Int32) : Option (Int32 × mt_St) :=
  bX6_number_28 fu σ x3 (0 : Int32)
set_option maxHeartbeats 4000000 in
set_option maxRecDepth 20000 in
theorem vX6_number_27 {K : mt_C} {fu : Nat} {r : Int32} {σf : mt_St} (hQ : mt_R K (some .int) (some (.int r)) σf) : ∀ (σ : mt_St) (x3 : Int32), mt_V K cX6_number RX6 4 3 σ 27 [(3, .int x3)] [.ref (mt_adr (kG K) 56)] (bX6_number_27 fu σ x3 = some (r, σf)) := by
  intro σ x3
  unfold bX6_number_27
  refine mv_iconst (v := 0) dX6_number_27 ic_0 ?_
  exact vX6_number_28 hQ σ x3 (0 : Int32)
def fX6_number (fu : Nat) (σ : mt_St) (a1 : Int32) (a2 : Int32) : Option (Int32 × mt_St) :=
  if (σ 56 10) = (2 : Int32) then
    mt_ask (fX6_within fu (σ 56 11) a1 a2) fun r1 =>
    if r1 = 0 then
      bX6_number_27 fu σ (σ 56 11)
    else
      bX6_number_28 fu σ (σ 56 11) (1 : Int32)
  else
    bX6_number_27 fu σ (σ 56 11)
set_option maxHeartbeats 4000000 in
set_option maxRecDepth 20000 in
theorem vX6_number {K : mt_C} {fu : Nat} {σ : mt_St} {a1 : Int32} {a2 : Int32} {r : Int32} {σf : mt_St} (hQ : mt_R K (some .int) (some (.int r)) σf) : mt_V K cX6_number RX6 4 3 σ 0 [(0, .ref (mt_adr (kG K) 56)), (1, .int a1), (2, .int a2)] [] (fX6_number fu σ a1 a2 = some (r, σf)) := by
  unfold fX6_number
  refine mv_aload_n 0 dX6_number_0 rfl rfl ?_
  refine mg_X6_11 fl_X6_234 dX6_number_1 ?_
  refine mv_istore_n (lv' := [(0, .ref (mt_adr (kG K) 56)), (1, .int a1), (2, .int a2), (3, .int (σ 56 11))]) [1, 2, 3, 0] dX6_number_4 rfl (by decide) rfl ?_
  refine mv_aload_n 0 dX6_number_5 rfl rfl ?_
  refine mv_aload_n 0 dX6_number_6 rfl rfl ?_
  refine mg_X6_10 fl_X6_237 dX6_number_7 ?_
  refine mv_iconst (v := 2) dX6_number_10 ic_2 ?_
  refine mv_icmp_ne 27 dX6_number_11 (by decide) ?_ ?_
  · refine mv_sub (lv' := [(3, .int (σ 56 11))]) [3] rfl ?_
    exact vX6_number_27 hQ σ (σ 56 11)
  · refine mv_iload_n 3 dX6_number_14 rfl rfl ?_
    refine mv_iload_n 1 dX6_number_15 rfl rfl ?_
    refine mv_iload_n 2 dX6_number_16 rfl rfl ?_
    refine mv_cSri (As := [.int (σ 56 11), .int a1, .int a2]) (st := [.ref (mt_adr (kG K) 56)]) cal_X6_within sta_X6_within ml_X6_70 rfl (by decide) rfl (Nat.le_of_ble_eq_true rfl) dX6_number_17 (fun r h => co_X6_within h) (fun r1 => ?_)
    refine mv_if_eq 27 dX6_number_20 (by decide) ?_ ?_
    · refine mv_sub (lv' := [(3, .int (σ 56 11))]) [3] rfl ?_
      exact vX6_number_27 hQ σ (σ 56 11)
    · refine mv_iconst (v := 1) dX6_number_23 ic_1 ?_
      refine mv_goto 28 dX6_number_24 (by decide) ?_
      refine mv_sub (lv' := [(3, .int (σ 56 11))]) [3] rfl ?_
      exact vX6_number_28 hQ σ (σ 56 11) (1 : Int32)
theorem co_X6_number {l : Launch} {G : mt_G} {fu : Nat} {σ : mt_St} {a1 : Int32} {a2 : Int32} {r : Int32} {σf : mt_St}  (h : fX6_number fu σ a1 a2 = some (r, σf)) : mt_Con l G yX6_number cX6_number 4 (some .int) 3 [.ref (mt_adr G 56), .int a1, .int a2] σ (some (.int r)) σf :=
  mt_con (by decide) (Nat.le_of_ble_eq_true rfl) (fun K hl hG hQ => by subst hl; subst hG; exact fun _ => vX6_number  hQ h)
theorem dX6_addItem_0 : decode cX6_addItem 0 = .ok (.bipush 6, 2) := by decide +kernel
theorem dX6_addItem_2 : decode cX6_addItem 2 = .ok (.aload_n 0, 1) := by decide +kernel
theorem dX6_addItem_3 : decode cX6_addItem 3 = .ok (.getfield 258, 3) := by decide +kernel
theorem dX6_addItem_6 : decode cX6_addItem 6 = .ok (.imul, 1) := by decide +kernel
theorem dX6_addItem_7 : decode cX6_addItem 7 = .ok (.istore 7, 2) := by decide +kernel
theorem dX6_addItem_9 : decode cX6_addItem 9 = .ok (.aload_n 0, 1) := by decide +kernel
theorem dX6_addItem_10 : decode cX6_addItem 10 = .ok (.getfield 45, 3) := by decide +kernel
theorem dX6_addItem_13 : decode cX6_addItem 13 = .ok (.iload 7, 2) := by decide +kernel
theorem dX6_addItem_15 : decode cX6_addItem 15 = .ok (.iload_n 1, 1) := by decide +kernel
theorem dX6_addItem_16 : decode cX6_addItem 16 = .ok (.iastore, 1) := by decide +kernel
theorem dX6_addItem_17 : decode cX6_addItem 17 = .ok (.aload_n 0, 1) := by decide +kernel
theorem dX6_addItem_18 : decode cX6_addItem 18 = .ok (.getfield 45, 3) := by decide +kernel
theorem dX6_addItem_21 : decode cX6_addItem 21 = .ok (.iload 7, 2) := by decide +kernel
theorem dX6_addItem_23 : decode cX6_addItem 23 = .ok (.iconst 1, 1) := by decide +kernel
theorem dX6_addItem_24 : decode cX6_addItem 24 = .ok (.iadd, 1) := by decide +kernel
theorem dX6_addItem_25 : decode cX6_addItem 25 = .ok (.iload_n 2, 1) := by decide +kernel
theorem dX6_addItem_26 : decode cX6_addItem 26 = .ok (.iastore, 1) := by decide +kernel
theorem dX6_addItem_27 : decode cX6_addItem 27 = .ok (.aload_n 0, 1) := by decide +kernel
theorem dX6_addItem_28 : decode cX6_addItem 28 = .ok (.getfield 45, 3) := by decide +kernel
theorem dX6_addItem_31 : decode cX6_addItem 31 = .ok (.iload 7, 2) := by decide +kernel
theorem dX6_addItem_33 : decode cX6_addItem 33 = .ok (.iconst 2, 1) := by decide +kernel
theorem dX6_addItem_34 : decode cX6_addItem 34 = .ok (.iadd, 1) := by decide +kernel
theorem dX6_addItem_35 : decode cX6_addItem 35 = .ok (.iload_n 3, 1) := by decide +kernel
theorem dX6_addItem_36 : decode cX6_addItem 36 = .ok (.iastore, 1) := by decide +kernel
theorem dX6_addItem_37 : decode cX6_addItem 37 = .ok (.aload_n 0, 1) := by decide +kernel
theorem dX6_addItem_38 : decode cX6_addItem 38 = .ok (.getfield 45, 3) := by decide +kernel
theorem dX6_addItem_41 : decode cX6_addItem 41 = .ok (.iload 7, 2) := by decide +kernel
theorem dX6_addItem_43 : decode cX6_addItem 43 = .ok (.iconst 3, 1) := by decide +kernel
theorem dX6_addItem_44 : decode cX6_addItem 44 = .ok (.iadd, 1) := by decide +kernel
theorem dX6_addItem_45 : decode cX6_addItem 45 = .ok (.iload 4, 2) := by decide +kernel
theorem dX6_addItem_47 : decode cX6_addItem 47 = .ok (.iastore, 1) := by decide +kernel
theorem dX6_addItem_48 : decode cX6_addItem 48 = .ok (.aload_n 0, 1) := by decide +kernel
theorem dX6_addItem_49 : decode cX6_addItem 49 = .ok (.getfield 45, 3) := by decide +kernel
theorem dX6_addItem_52 : decode cX6_addItem 52 = .ok (.iload 7, 2) := by decide +kernel
theorem dX6_addItem_54 : decode cX6_addItem 54 = .ok (.iconst 4, 1) := by decide +kernel
theorem dX6_addItem_55 : decode cX6_addItem 55 = .ok (.iadd, 1) := by decide +kernel
theorem dX6_addItem_56 : decode cX6_addItem 56 = .ok (.iload 5, 2) := by decide +kernel
theorem dX6_addItem_58 : decode cX6_addItem 58 = .ok (.iastore, 1) := by decide +kernel
theorem dX6_addItem_59 : decode cX6_addItem 59 = .ok (.aload_n 0, 1) := by decide +kernel
theorem dX6_addItem_60 : decode cX6_addItem 60 = .ok (.getfield 45, 3) := by decide +kernel
theorem dX6_addItem_63 : decode cX6_addItem 63 = .ok (.iload 7, 2) := by decide +kernel
theorem dX6_addItem_65 : decode cX6_addItem 65 = .ok (.iconst 5, 1) := by decide +kernel
theorem dX6_addItem_66 : decode cX6_addItem 66 = .ok (.iadd, 1) := by decide +kernel
theorem dX6_addItem_67 : decode cX6_addItem 67 = .ok (.iload 6, 2) := by decide +kernel
theorem dX6_addItem_69 : decode cX6_addItem 69 = .ok (.iastore, 1) := by decide +kernel
theorem dX6_addItem_70 : decode cX6_addItem 70 = .ok (.aload_n 0, 1) := by decide +kernel
theorem dX6_addItem_71 : decode cX6_addItem 71 = .ok (.dup, 1) := by decide +kernel
theorem dX6_addItem_72 : decode cX6_addItem 72 = .ok (.getfield 258, 3) := by decide +kernel
theorem dX6_addItem_75 : decode cX6_addItem 75 = .ok (.iconst 1, 1) := by decide +kernel
theorem dX6_addItem_76 : decode cX6_addItem 76 = .ok (.iadd, 1) := by decide +kernel
theorem dX6_addItem_77 : decode cX6_addItem 77 = .ok (.putfield 258, 3) := by decide +kernel
theorem dX6_addItem_80 : decode cX6_addItem 80 = .ok (.return_, 1) := by decide +kernel
def fX6_addItem (fu : Nat) (σ : mt_St) (a1 : Int32) (a2 : Int32) (a3 : Int32) (a4 : Int32) (a5 : Int32) (a6 : Int32) : Option (Unit × mt_St) :=
  mt_chk (mt_in ((6 : Int32) * (σ 56 15)) 720) <|
  mt_bnd (mt_up σ 63 (Int32.toNatClampNeg ((6 : Int32) * (σ 56 15))) a1) fun s1 =>
  mt_chk (mt_in (((6 : Int32) * (σ 56 15)) + (1 : Int32)) 720) <|
  mt_bnd (mt_up s1 63 (Int32.toNatClampNeg (((6 : Int32) * (σ 56 15)) + (1 : Int32))) a2) fun s2 =>
  mt_chk (mt_in (((6 : Int32) * (σ 56 15)) + (2 : Int32)) 720) <|
  mt_bnd (mt_up s2 63 (Int32.toNatClampNeg (((6 : Int32) * (σ 56 15)) + (2 : Int32))) a3) fun s3 =>
  mt_chk (mt_in (((6 : Int32) * (σ 56 15)) + (3 : Int32)) 720) <|
  mt_bnd (mt_up s3 63 (Int32.toNatClampNeg (((6 : Int32) * (σ 56 15)) + (3 : Int32))) a4) fun s4 =>
  mt_chk (mt_in (((6 : Int32) * (σ 56 15)) + (4 : Int32)) 720) <|
  mt_bnd (mt_up s4 63 (Int32.toNatClampNeg (((6 : Int32) * (σ 56 15)) + (4 : Int32))) a5) fun s5 =>
  mt_chk (mt_in (((6 : Int32) * (σ 56 15)) + (5 : Int32)) 720) <|
  mt_bnd (mt_up s5 63 (Int32.toNatClampNeg (((6 : Int32) * (σ 56 15)) + (5 : Int32))) a6) fun s6 =>
  mt_bnd (mt_up s6 56 15 ((s6 56 15) + (1 : Int32))) fun s7 =>
  some ((), s7)
set_option maxHeartbeats 4000000 in
set_option maxRecDepth 20000 in
theorem vX6_addItem {K : mt_C} {fu : Nat} {σ : mt_St} {a1 : Int32} {a2 : Int32} {a3 : Int32} {a4 : Int32} {a5 : Int32} {a6 : Int32} {r : Unit} {σf : mt_St} (hQ : mt_R K none none σf) : mt_V K cX6_addItem RX6 8 0 σ 0 [(0, .ref (mt_adr (kG K) 56)), (1, .int a1), (2, .int a2), (3, .int a3), (4, .int a4), (5, .int a5), (6, .int a6)] [] (fX6_addItem fu σ a1 a2 a3 a4 a5 a6 = some (r, σf)) := by
  unfold fX6_addItem
  refine mv_bipush (v := 6) dX6_addItem_0 bp_6 ?_
  refine mv_aload_n 0 dX6_addItem_2 rfl rfl ?_
  refine mg_X6_15 fl_X6_258 dX6_addItem_3 ?_
  refine mv_imul dX6_addItem_6 ?_
  refine mv_istore (lv' := [(0, .ref (mt_adr (kG K) 56)), (1, .int a1), (2, .int a2), (3, .int a3), (4, .int a4), (5, .int a5), (6, .int a6), (7, .int ((6 : Int32) * (σ 56 15)))]) [1, 2, 3, 4, 5, 6, 7, 0] dX6_addItem_7 (by decide) rfl ?_
  refine mv_aload_n 0 dX6_addItem_9 rfl rfl ?_
  refine mg_X6_14 fl_X6_45 dX6_addItem_10 ?_
  refine mv_iload 7 dX6_addItem_13 rfl ?_
  refine mv_iload_n 1 dX6_addItem_15 rfl rfl ?_
  refine mv_iast 720 rfl rfl dX6_addItem_16 (fun s1 => ?_)
  refine mv_aload_n 0 dX6_addItem_17 rfl rfl ?_
  refine mg_X6_14 fl_X6_45 dX6_addItem_18 ?_
  refine mv_iload 7 dX6_addItem_21 rfl ?_
  refine mv_iconst (v := 1) dX6_addItem_23 ic_1 ?_
  refine mv_iadd dX6_addItem_24 ?_
  refine mv_iload_n 2 dX6_addItem_25 rfl rfl ?_
  refine mv_iast 720 rfl rfl dX6_addItem_26 (fun s2 => ?_)
  refine mv_aload_n 0 dX6_addItem_27 rfl rfl ?_
  refine mg_X6_14 fl_X6_45 dX6_addItem_28 ?_
  refine mv_iload 7 dX6_addItem_31 rfl ?_
  refine mv_iconst (v := 2) dX6_addItem_33 ic_2 ?_
  refine mv_iadd dX6_addItem_34 ?_
  refine mv_iload_n 3 dX6_addItem_35 rfl rfl ?_
  refine mv_iast 720 rfl rfl dX6_addItem_36 (fun s3 => ?_)
  refine mv_aload_n 0 dX6_addItem_37 rfl rfl ?_
  refine mg_X6_14 fl_X6_45 dX6_addItem_38 ?_
  refine mv_iload 7 dX6_addItem_41 rfl ?_
  refine mv_iconst (v := 3) dX6_addItem_43 ic_3 ?_
  refine mv_iadd dX6_addItem_44 ?_
  refine mv_iload 4 dX6_addItem_45 rfl ?_
  refine mv_iast 720 rfl rfl dX6_addItem_47 (fun s4 => ?_)
  refine mv_aload_n 0 dX6_addItem_48 rfl rfl ?_
  refine mg_X6_14 fl_X6_45 dX6_addItem_49 ?_
  refine mv_iload 7 dX6_addItem_52 rfl ?_
  refine mv_iconst (v := 4) dX6_addItem_54 ic_4 ?_
  refine mv_iadd dX6_addItem_55 ?_
  refine mv_iload 5 dX6_addItem_56 rfl ?_
  refine mv_iast 720 rfl rfl dX6_addItem_58 (fun s5 => ?_)
  refine mv_aload_n 0 dX6_addItem_59 rfl rfl ?_
  refine mg_X6_14 fl_X6_45 dX6_addItem_60 ?_
  refine mv_iload 7 dX6_addItem_63 rfl ?_
  refine mv_iconst (v := 5) dX6_addItem_65 ic_5 ?_
  refine mv_iadd dX6_addItem_66 ?_
  refine mv_iload 6 dX6_addItem_67 rfl ?_
  refine mv_iast 720 rfl rfl dX6_addItem_69 (fun s6 => ?_)
  refine mv_aload_n 0 dX6_addItem_70 rfl rfl ?_
  refine mv_dup dX6_addItem_71 rfl ?_
  refine mg_X6_15 fl_X6_258 dX6_addItem_72 ?_
  refine mv_iconst (v := 1) dX6_addItem_75 ic_1 ?_
  refine mv_iadd dX6_addItem_76 ?_
  refine mp_X6_15 fl_X6_258 dX6_addItem_77 (fun s7 => ?_)
  exact mv_vret hQ dX6_addItem_80
theorem co_X6_addItem {l : Launch} {G : mt_G} {fu : Nat} {σ : mt_St} {a1 : Int32} {a2 : Int32} {a3 : Int32} {a4 : Int32} {a5 : Int32} {a6 : Int32} {r : Unit} {σf : mt_St}  (h : fX6_addItem fu σ a1 a2 a3 a4 a5 a6 = some (r, σf)) : mt_Con l G yX6_addItem cX6_addItem 8 none 0 [.ref (mt_adr G 56), .int a1, .int a2, .int a3, .int a4, .int a5, .int a6] σ none σf :=
  mt_con (by decide) (Nat.le_of_ble_eq_true rfl) (fun K hl hG hQ => by subst hl; subst hG; exact fun _ => vX6_addItem  hQ h)
theorem dX6_takesWord_0 : decode cX6_takesWord 0 = .ok (.aload_n 0, 1) := by decide +kernel
theorem dX6_takesWord_1 : decode cX6_takesWord 1 = .ok (.getfield 247, 3) := by decide +kernel
theorem dX6_takesWord_4 : decode cX6_takesWord 4 = .ok (.ifCond .ne 15, 3) := by decide +kernel
theorem dX6_takesWord_7 : decode cX6_takesWord 7 = .ok (.aload_n 0, 1) := by decide +kernel
theorem dX6_takesWord_8 : decode cX6_takesWord 8 = .ok (.aload_n 1, 1) := by decide +kernel
theorem dX6_takesWord_9 : decode cX6_takesWord 9 = .ok (.invokevirtual 261, 3) := by decide +kernel
theorem dX6_takesWord_12 : decode cX6_takesWord 12 = .ok (.ifCond .eq 7, 3) := by decide +kernel
theorem dX6_takesWord_15 : decode cX6_takesWord 15 = .ok (.iconst 1, 1) := by decide +kernel
theorem dX6_takesWord_16 : decode cX6_takesWord 16 = .ok (.goto 4, 3) := by decide +kernel
theorem dX6_takesWord_19 : decode cX6_takesWord 19 = .ok (.iconst 0, 1) := by decide +kernel
theorem dX6_takesWord_20 : decode cX6_takesWord 20 = .ok (.istore_n 2, 1) := by decide +kernel
theorem dX6_takesWord_21 : decode cX6_takesWord 21 = .ok (.iload_n 2, 1) := by decide +kernel
theorem dX6_takesWord_22 : decode cX6_takesWord 22 = .ok (.ifCond .eq 8, 3) := by decide +kernel
theorem dX6_takesWord_25 : decode cX6_takesWord 25 = .ok (.aload_n 0, 1) := by decide +kernel
theorem dX6_takesWord_26 : decode cX6_takesWord 26 = .ok (.iconst 1, 1) := by decide +kernel
theorem dX6_takesWord_27 : decode cX6_takesWord 27 = .ok (.invokevirtual 254, 3) := by decide +kernel
theorem dX6_takesWord_30 : decode cX6_takesWord 30 = .ok (.iload_n 2, 1) := by decide +kernel
theorem dX6_takesWord_31 : decode cX6_takesWord 31 = .ok (.ireturn, 1) := by decide +kernel
def bX6_takesWord_30 (fu : Nat) (a1 : Nat) (σ : mt_St) (x2 : Int32) : Option (Int32 × mt_St) :=
  mt_chk (mt_b01 x2) (some (x2, σ))
set_option maxHeartbeats 4000000 in
set_option maxRecDepth 20000 in
theorem vX6_takesWord_30 {K : mt_C} {fu : Nat} {a1 : Nat} {r : Int32} {σf : mt_St} (ha1 : a1 < 13) (hQ : mt_R K (some .boolean) (some (.int r)) σf) : ∀ (σ : mt_St) (x2 : Int32), mt_V K cX6_takesWord RX6 3 5 σ 30 [(2, .int x2)] [] (bX6_takesWord_30 fu a1 σ x2 = some (r, σf)) := by
  intro σ x2
  unfold bX6_takesWord_30
  refine mv_iload_n 0 dX6_takesWord_30 rfl rfl ?_
  exact mv_zret hQ dX6_takesWord_31
def bX6_takesWord_20 (fu : Nat) (a1 : Nat) (σ : mt_St) (y0 : Int32) : Option (Int32 × mt_St) :=
  if y0 = 0 then
    bX6_takesWord_30 fu a1 σ y0
  else
    mt_call (fX6_must fu σ (1 : Int32)) fun _ s2 =>
    bX6_takesWord_30 fu a1 s2 y0
set_option maxHeartbeats 4000000 in
set_option maxRecDepth 20000 in
theorem vX6_takesWord_20 {K : mt_C} {fu : Nat} {a1 : Nat} {r : Int32} {σf : mt_St} (ha1 : a1 < 13) (hQ : mt_R K (some .boolean) (some (.int r)) σf) : ∀ (σ : mt_St) (y0 : Int32), mt_V K cX6_takesWord RX6 3 5 σ 20 [(0, .ref (mt_adr (kG K) 56))] [.int y0] (bX6_takesWord_20 fu a1 σ y0 = some (r, σf)) := by
  intro σ y0
  unfold bX6_takesWord_20
  refine mv_istore_n (lv' := [(0, .ref (mt_adr (kG K) 56)), (2, .int y0)]) [1, 0] dX6_takesWord_20 rfl (by decide) rfl ?_
  refine mv_iload_n 1 dX6_takesWord_21 rfl rfl ?_
  refine mv_if_eq 30 dX6_takesWord_22 (by decide) ?_ ?_
  · refine mv_sub (lv' := [(2, .int y0)]) [1] rfl ?_
    exact vX6_takesWord_30 ha1 hQ σ y0
  · refine mv_aload_n 0 dX6_takesWord_25 rfl rfl ?_
    refine mv_iconst (v := 1) dX6_takesWord_26 ic_1 ?_
    refine mv_cVwv (As := [.int (1 : Int32)]) (st := []) cal_X6_must ins_X6_must ml_X6_254 rfl (by decide) rfl rfl (by decide) rfl (Nat.le_of_ble_eq_true rfl) dX6_takesWord_27 (fun r s h => co_X6_must h) (fun r1 s2 => ?_)
    refine mv_sub (lv' := [(2, .int y0)]) [1] rfl ?_
    exact vX6_takesWord_30 ha1 hQ s2 y0
def bX6_takesWord_19 (fu : Nat) (a1 : Nat) (σ : mt_St) : Option (Int32 × mt_St) :=
  bX6_takesWord_20 fu a1 σ (0 : Int32)
set_option maxHeartbeats 4000000 in
set_option maxRecDepth 20000 in
theorem vX6_takesWord_19 {K : mt_C} {fu : Nat} {a1 : Nat} {r : Int32} {σf : mt_St} (ha1 : a1 < 13) (hQ : mt_R K (some .boolean) (some (.int r)) σf) : ∀ (σ : mt_St), mt_V K cX6_takesWord RX6 3 5 σ 19 [(0, .ref (mt_adr (kG K) 56))] [] (bX6_takesWord_19 fu a1 σ = some (r, σf)) := by
  intro σ
  unfold bX6_takesWord_19
  refine mv_iconst (v := 0) dX6_takesWord_19 ic_0 ?_
  exact vX6_takesWord_20 ha1 hQ σ (0 : Int32)
def fX6_takesWord (fu : Nat) (σ : mt_St) (a1 : Nat) : Option (Int32 × mt_St) :=
  if (σ 56 12) = 0 then
    mt_ask (fX6_isWord fu σ a1) fun r1 =>
    if r1 = 0 then
      bX6_takesWord_19 fu a1 σ
    else
      bX6_takesWord_20 fu a1 σ (1 : Int32)
  else
    bX6_takesWord_19 fu a1 σ
set_option maxHeartbeats 4000000 in
set_option maxRecDepth 20000 in
theorem vX6_takesWord {K : mt_C} {fu : Nat} {σ : mt_St} {a1 : Nat} {r : Int32} {σf : mt_St} (ha1 : a1 < 13) (hQ : mt_R K (some .boolean) (some (.int r)) σf) : mt_V K cX6_takesWord RX6 3 5 σ 0 [(0, .ref (mt_adr (kG K) 56)), (1, .ref (mt_aK (kG K) a1))] [] (fX6_takesWord fu σ a1 = some (r, σf)) := by
  unfold fX6_takesWord
  refine mv_aload_n 0 dX6_takesWord_0 rfl rfl ?_
  refine mg_X6_12 fl_X6_247 dX6_takesWord_1 ?_
  refine mv_if_ne 19 dX6_takesWord_4 (by decide) ?_ ?_
  · refine mv_sub (lv' := [(0, .ref (mt_adr (kG K) 56))]) [0] rfl ?_
    exact vX6_takesWord_19 ha1 hQ σ
  · refine mv_aload_n 0 dX6_takesWord_7 rfl rfl ?_
    refine mv_aload_n 1 dX6_takesWord_8 rfl rfl ?_
    refine mv_cVri (As := [.ref (mt_aK (kG K) a1)]) (st := []) cal_X6_isWord ins_X6_isWord ml_X6_261 rfl (by decide) rfl rfl (by decide) rfl (Nat.le_of_ble_eq_true rfl) dX6_takesWord_9 (fun r h => co_X6_isWord ha1 h) (fun r1 => ?_)
    refine mv_if_eq 19 dX6_takesWord_12 (by decide) ?_ ?_
    · refine mv_sub (lv' := [(0, .ref (mt_adr (kG K) 56))]) [0] rfl ?_
      exact vX6_takesWord_19 ha1 hQ σ
    · refine mv_iconst (v := 1) dX6_takesWord_15 ic_1 ?_
      refine mv_goto 20 dX6_takesWord_16 (by decide) ?_
      refine mv_sub (lv' := [(0, .ref (mt_adr (kG K) 56))]) [0] rfl ?_
      exact vX6_takesWord_20 ha1 hQ σ (1 : Int32)
theorem co_X6_takesWord {l : Launch} {G : mt_G} {fu : Nat} {σ : mt_St} {a1 : Nat} {r : Int32} {σf : mt_St} (ha1 : a1 < 13) (h : fX6_takesWord fu σ a1 = some (r, σf)) : mt_Con l G yX6_takesWord cX6_takesWord 3 (some .boolean) 5 [.ref (mt_adr G 56), .ref (mt_aK G a1)] σ (some (.int r)) σf :=
  mt_con (by decide) (Nat.le_of_ble_eq_true rfl) (fun K hl hG hQ => by subst hl; subst hG; exact fun _ => vX6_takesWord ha1 hQ h)
theorem dX6_otherThan_0 : decode cX6_otherThan 0 = .ok (.aload_n 0, 1) := by decide +kernel
theorem dX6_otherThan_1 : decode cX6_otherThan 1 = .ok (.getfield 234, 3) := by decide +kernel
theorem dX6_otherThan_4 : decode cX6_otherThan 4 = .ok (.istore_n 2, 1) := by decide +kernel
theorem dX6_otherThan_5 : decode cX6_otherThan 5 = .ok (.aload_n 0, 1) := by decide +kernel
theorem dX6_otherThan_6 : decode cX6_otherThan 6 = .ok (.aload_n 0, 1) := by decide +kernel
theorem dX6_otherThan_7 : decode cX6_otherThan 7 = .ok (.getfield 237, 3) := by decide +kernel
theorem dX6_otherThan_10 : decode cX6_otherThan 10 = .ok (.iconst 2, 1) := by decide +kernel
theorem dX6_otherThan_11 : decode cX6_otherThan 11 = .ok (.if_icmp .ne 21, 3) := by decide +kernel
theorem dX6_otherThan_14 : decode cX6_otherThan 14 = .ok (.iload_n 2, 1) := by decide +kernel
theorem dX6_otherThan_15 : decode cX6_otherThan 15 = .ok (.iconst 0, 1) := by decide +kernel
theorem dX6_otherThan_16 : decode cX6_otherThan 16 = .ok (.iconst 5, 1) := by decide +kernel
theorem dX6_otherThan_17 : decode cX6_otherThan 17 = .ok (.invokestatic 70, 3) := by decide +kernel
theorem dX6_otherThan_20 : decode cX6_otherThan 20 = .ok (.ifCond .eq 12, 3) := by decide +kernel
theorem dX6_otherThan_23 : decode cX6_otherThan 23 = .ok (.iload_n 2, 1) := by decide +kernel
theorem dX6_otherThan_24 : decode cX6_otherThan 24 = .ok (.iload_n 1, 1) := by decide +kernel
theorem dX6_otherThan_25 : decode cX6_otherThan 25 = .ok (.if_icmp .eq 7, 3) := by decide +kernel
theorem dX6_otherThan_28 : decode cX6_otherThan 28 = .ok (.iconst 1, 1) := by decide +kernel
theorem dX6_otherThan_29 : decode cX6_otherThan 29 = .ok (.goto 4, 3) := by decide +kernel
theorem dX6_otherThan_32 : decode cX6_otherThan 32 = .ok (.iconst 0, 1) := by decide +kernel
theorem dX6_otherThan_33 : decode cX6_otherThan 33 = .ok (.invokevirtual 254, 3) := by decide +kernel
theorem dX6_otherThan_36 : decode cX6_otherThan 36 = .ok (.iload_n 2, 1) := by decide +kernel
theorem dX6_otherThan_37 : decode cX6_otherThan 37 = .ok (.ireturn, 1) := by decide +kernel
def bX6_otherThan_33 (fu : Nat) (σ : mt_St) (x2 : Int32) (y0 : Int32) : Option (Int32 × mt_St) :=
  mt_call (fX6_must fu σ y0) fun _ s2 =>
  some (x2, s2)
set_option maxHeartbeats 4000000 in
set_option maxRecDepth 20000 in
theorem vX6_otherThan_33 {K : mt_C} {fu : Nat} {r : Int32} {σf : mt_St} (hQ : mt_R K (some .int) (some (.int r)) σf) : ∀ (σ : mt_St) (x2 : Int32) (y0 : Int32), mt_V K cX6_otherThan RX6 3 3 σ 33 [(2, .int x2)] [.int y0, .ref (mt_adr (kG K) 56)] (bX6_otherThan_33 fu σ x2 y0 = some (r, σf)) := by
  intro σ x2 y0
  unfold bX6_otherThan_33
  refine mv_cVwv (As := [.int y0]) (st := []) cal_X6_must ins_X6_must ml_X6_254 rfl (by decide) rfl rfl (by decide) rfl (Nat.le_of_ble_eq_true rfl) dX6_otherThan_33 (fun r s h => co_X6_must h) (fun r1 s2 => ?_)
  refine mv_iload_n 0 dX6_otherThan_36 rfl rfl ?_
  exact mv_iret hQ dX6_otherThan_37
def bX6_otherThan_32 (fu : Nat) (σ : mt_St) (x2 : Int32) : Option (Int32 × mt_St) :=
  bX6_otherThan_33 fu σ x2 (0 : Int32)
set_option maxHeartbeats 4000000 in
set_option maxRecDepth 20000 in
theorem vX6_otherThan_32 {K : mt_C} {fu : Nat} {r : Int32} {σf : mt_St} (hQ : mt_R K (some .int) (some (.int r)) σf) : ∀ (σ : mt_St) (x2 : Int32), mt_V K cX6_otherThan RX6 3 3 σ 32 [(2, .int x2)] [.ref (mt_adr (kG K) 56)] (bX6_otherThan_32 fu σ x2 = some (r, σf)) := by
  intro σ x2
  unfold bX6_otherThan_32
  refine mv_iconst (v := 0) dX6_otherThan_32 ic_0 ?_
  exact vX6_otherThan_33 hQ σ x2 (0 : Int32)
def fX6_otherThan (fu : Nat) (σ : mt_St) (a1 : Int32) : Option (Int32 × mt_St) :=
  if (σ 56 10) = (2 : Int32) then
    mt_ask (fX6_within fu (σ 56 11) (0 : Int32) (5 : Int32)) fun r1 =>
    if r1 = 0 then
      bX6_otherThan_32 fu σ (σ 56 11)
    else
      if (σ 56 11) = a1 then
        bX6_otherThan_32 fu σ (σ 56 11)
      else
        bX6_otherThan_33 fu σ (σ 56 11) (1 : Int32)
  else
    bX6_otherThan_32 fu σ (σ 56 11)
set_option maxHeartbeats 4000000 in
set_option maxRecDepth 20000 in
theorem vX6_otherThan {K : mt_C} {fu : Nat} {σ : mt_St} {a1 : Int32} {r : Int32} {σf : mt_St} (hQ : mt_R K (some .int) (some (.int r)) σf) : mt_V K cX6_otherThan RX6 3 3 σ 0 [(0, .ref (mt_adr (kG K) 56)), (1, .int a1)] [] (fX6_otherThan fu σ a1 = some (r, σf)) := by
  unfold fX6_otherThan
  refine mv_aload_n 0 dX6_otherThan_0 rfl rfl ?_
  refine mg_X6_11 fl_X6_234 dX6_otherThan_1 ?_
  refine mv_istore_n (lv' := [(0, .ref (mt_adr (kG K) 56)), (1, .int a1), (2, .int (σ 56 11))]) [1, 2, 0] dX6_otherThan_4 rfl (by decide) rfl ?_
  refine mv_aload_n 0 dX6_otherThan_5 rfl rfl ?_
  refine mv_aload_n 0 dX6_otherThan_6 rfl rfl ?_
  refine mg_X6_10 fl_X6_237 dX6_otherThan_7 ?_
  refine mv_iconst (v := 2) dX6_otherThan_10 ic_2 ?_
  refine mv_icmp_ne 32 dX6_otherThan_11 (by decide) ?_ ?_
  · refine mv_sub (lv' := [(2, .int (σ 56 11))]) [2] rfl ?_
    exact vX6_otherThan_32 hQ σ (σ 56 11)
  · refine mv_iload_n 2 dX6_otherThan_14 rfl rfl ?_
    refine mv_iconst (v := 0) dX6_otherThan_15 ic_0 ?_
    refine mv_iconst (v := 5) dX6_otherThan_16 ic_5 ?_
    refine mv_cSri (As := [.int (σ 56 11), .int (0 : Int32), .int (5 : Int32)]) (st := [.ref (mt_adr (kG K) 56)]) cal_X6_within sta_X6_within ml_X6_70 rfl (by decide) rfl (Nat.le_of_ble_eq_true rfl) dX6_otherThan_17 (fun r h => co_X6_within h) (fun r1 => ?_)
    refine mv_if_eq 32 dX6_otherThan_20 (by decide) ?_ ?_
    · refine mv_sub (lv' := [(2, .int (σ 56 11))]) [2] rfl ?_
      exact vX6_otherThan_32 hQ σ (σ 56 11)
    · refine mv_iload_n 2 dX6_otherThan_23 rfl rfl ?_
      refine mv_iload_n 1 dX6_otherThan_24 rfl rfl ?_
      refine mv_icmp_eq 32 dX6_otherThan_25 (by decide) ?_ ?_
      · refine mv_sub (lv' := [(2, .int (σ 56 11))]) [2] rfl ?_
        exact vX6_otherThan_32 hQ σ (σ 56 11)
      · refine mv_iconst (v := 1) dX6_otherThan_28 ic_1 ?_
        refine mv_goto 33 dX6_otherThan_29 (by decide) ?_
        refine mv_sub (lv' := [(2, .int (σ 56 11))]) [2] rfl ?_
        exact vX6_otherThan_33 hQ σ (σ 56 11) (1 : Int32)
theorem co_X6_otherThan {l : Launch} {G : mt_G} {fu : Nat} {σ : mt_St} {a1 : Int32} {r : Int32} {σf : mt_St}  (h : fX6_otherThan fu σ a1 = some (r, σf)) : mt_Con l G yX6_otherThan cX6_otherThan 3 (some .int) 3 [.ref (mt_adr G 56), .int a1] σ (some (.int r)) σf :=
  mt_con (by decide) (Nat.le_of_ble_eq_true rfl) (fun K hl hG hQ => by subst hl; subst hG; exact fun _ => vX6_otherThan  hQ h)
theorem dX6_readTreaty_0 : decode cX6_readTreaty 0 = .ok (.aload_n 0, 1) := by decide +kernel
theorem dX6_readTreaty_1 : decode cX6_readTreaty 1 = .ok (.aload_n 0, 1) := by decide +kernel
theorem dX6_readTreaty_2 : decode cX6_readTreaty 2 = .ok (.getfield 265, 3) := by decide +kernel
theorem dX6_readTreaty_5 : decode cX6_readTreaty 5 = .ok (.bipush 8, 2) := by decide +kernel
theorem dX6_readTreaty_7 : decode cX6_readTreaty 7 = .ok (.if_icmp .ge 7, 3) := by decide +kernel
theorem dX6_readTreaty_10 : decode cX6_readTreaty 10 = .ok (.iconst 1, 1) := by decide +kernel
theorem dX6_readTreaty_11 : decode cX6_readTreaty 11 = .ok (.goto 4, 3) := by decide +kernel
theorem dX6_readTreaty_14 : decode cX6_readTreaty 14 = .ok (.iconst 0, 1) := by decide +kernel
theorem dX6_readTreaty_15 : decode cX6_readTreaty 15 = .ok (.invokevirtual 254, 3) := by decide +kernel
theorem dX6_readTreaty_18 : decode cX6_readTreaty 18 = .ok (.aload_n 0, 1) := by decide +kernel
theorem dX6_readTreaty_19 : decode cX6_readTreaty 19 = .ok (.iconst 0, 1) := by decide +kernel
theorem dX6_readTreaty_20 : decode cX6_readTreaty 20 = .ok (.iconst 5, 1) := by decide +kernel
theorem dX6_readTreaty_21 : decode cX6_readTreaty 21 = .ok (.invokevirtual 268, 3) := by decide +kernel
theorem dX6_readTreaty_24 : decode cX6_readTreaty 24 = .ok (.istore_n 2, 1) := by decide +kernel
theorem dX6_readTreaty_25 : decode cX6_readTreaty 25 = .ok (.aload_n 0, 1) := by decide +kernel
theorem dX6_readTreaty_26 : decode cX6_readTreaty 26 = .ok (.iload_n 2, 1) := by decide +kernel
theorem dX6_readTreaty_27 : decode cX6_readTreaty 27 = .ok (.invokevirtual 271, 3) := by decide +kernel
theorem dX6_readTreaty_30 : decode cX6_readTreaty 30 = .ok (.istore_n 3, 1) := by decide +kernel
theorem dX6_readTreaty_31 : decode cX6_readTreaty 31 = .ok (.aload_n 0, 1) := by decide +kernel
theorem dX6_readTreaty_32 : decode cX6_readTreaty 32 = .ok (.ldc_w 274, 3) := by decide +kernel
theorem dX6_readTreaty_35 : decode cX6_readTreaty 35 = .ok (.invokevirtual 276, 3) := by decide +kernel
theorem dX6_readTreaty_38 : decode cX6_readTreaty 38 = .ok (.ifCond .eq 14, 3) := by decide +kernel
theorem dX6_readTreaty_41 : decode cX6_readTreaty 41 = .ok (.aload_n 0, 1) := by decide +kernel
theorem dX6_readTreaty_42 : decode cX6_readTreaty 42 = .ok (.iconst 0, 1) := by decide +kernel
theorem dX6_readTreaty_43 : decode cX6_readTreaty 43 = .ok (.sipush 4095, 3) := by decide +kernel
theorem dX6_readTreaty_46 : decode cX6_readTreaty 46 = .ok (.invokevirtual 268, 3) := by decide +kernel
theorem dX6_readTreaty_49 : decode cX6_readTreaty 49 = .ok (.goto 4, 3) := by decide +kernel
theorem dX6_readTreaty_52 : decode cX6_readTreaty 52 = .ok (.iconst (-1), 1) := by decide +kernel
theorem dX6_readTreaty_53 : decode cX6_readTreaty 53 = .ok (.istore 4, 2) := by decide +kernel
theorem dX6_readTreaty_55 : decode cX6_readTreaty 55 = .ok (.aload_n 0, 1) := by decide +kernel
theorem dX6_readTreaty_56 : decode cX6_readTreaty 56 = .ok (.ldc_w 279, 3) := by decide +kernel
theorem dX6_readTreaty_59 : decode cX6_readTreaty 59 = .ok (.invokevirtual 276, 3) := by decide +kernel
theorem dX6_readTreaty_62 : decode cX6_readTreaty 62 = .ok (.ifCond .eq 14, 3) := by decide +kernel
theorem dX6_readTreaty_65 : decode cX6_readTreaty 65 = .ok (.aload_n 0, 1) := by decide +kernel
theorem dX6_readTreaty_66 : decode cX6_readTreaty 66 = .ok (.iconst 0, 1) := by decide +kernel
theorem dX6_readTreaty_67 : decode cX6_readTreaty 67 = .ok (.sipush 9999, 3) := by decide +kernel
theorem dX6_readTreaty_70 : decode cX6_readTreaty 70 = .ok (.invokevirtual 268, 3) := by decide +kernel
theorem dX6_readTreaty_73 : decode cX6_readTreaty 73 = .ok (.goto 4, 3) := by decide +kernel
theorem dX6_readTreaty_76 : decode cX6_readTreaty 76 = .ok (.iconst 0, 1) := by decide +kernel
theorem dX6_readTreaty_77 : decode cX6_readTreaty 77 = .ok (.istore 5, 2) := by decide +kernel
theorem dX6_readTreaty_79 : decode cX6_readTreaty 79 = .ok (.aload_n 0, 1) := by decide +kernel
theorem dX6_readTreaty_80 : decode cX6_readTreaty 80 = .ok (.iload_n 1, 1) := by decide +kernel
theorem dX6_readTreaty_81 : decode cX6_readTreaty 81 = .ok (.iload_n 2, 1) := by decide +kernel
theorem dX6_readTreaty_82 : decode cX6_readTreaty 82 = .ok (.iload_n 3, 1) := by decide +kernel
theorem dX6_readTreaty_83 : decode cX6_readTreaty 83 = .ok (.iload 4, 2) := by decide +kernel
theorem dX6_readTreaty_85 : decode cX6_readTreaty 85 = .ok (.iload 5, 2) := by decide +kernel
theorem dX6_readTreaty_87 : decode cX6_readTreaty 87 = .ok (.aload_n 0, 1) := by decide +kernel
theorem dX6_readTreaty_88 : decode cX6_readTreaty 88 = .ok (.ldc_w 281, 3) := by decide +kernel
theorem dX6_readTreaty_91 : decode cX6_readTreaty 91 = .ok (.invokevirtual 276, 3) := by decide +kernel
theorem dX6_readTreaty_94 : decode cX6_readTreaty 94 = .ok (.ifCond .eq 7, 3) := by decide +kernel
theorem dX6_readTreaty_97 : decode cX6_readTreaty 97 = .ok (.iconst 0, 1) := by decide +kernel
theorem dX6_readTreaty_98 : decode cX6_readTreaty 98 = .ok (.goto 4, 3) := by decide +kernel
theorem dX6_readTreaty_101 : decode cX6_readTreaty 101 = .ok (.iconst 1, 1) := by decide +kernel
theorem dX6_readTreaty_102 : decode cX6_readTreaty 102 = .ok (.invokevirtual 283, 3) := by decide +kernel
theorem dX6_readTreaty_105 : decode cX6_readTreaty 105 = .ok (.aload_n 0, 1) := by decide +kernel
theorem dX6_readTreaty_106 : decode cX6_readTreaty 106 = .ok (.dup, 1) := by decide +kernel
theorem dX6_readTreaty_107 : decode cX6_readTreaty 107 = .ok (.getfield 265, 3) := by decide +kernel
theorem dX6_readTreaty_110 : decode cX6_readTreaty 110 = .ok (.iconst 1, 1) := by decide +kernel
theorem dX6_readTreaty_111 : decode cX6_readTreaty 111 = .ok (.iadd, 1) := by decide +kernel
theorem dX6_readTreaty_112 : decode cX6_readTreaty 112 = .ok (.putfield 265, 3) := by decide +kernel
theorem dX6_readTreaty_115 : decode cX6_readTreaty 115 = .ok (.return_, 1) := by decide +kernel
def bX6_readTreaty_102 (fu : Nat) (σ : mt_St) (y0 : Int32) (y1 : Int32) (y2 : Int32) (y3 : Int32) (y4 : Int32) (y5 : Int32) : Option (Unit × mt_St) :=
  mt_call (fX6_addItem fu σ y5 y4 y3 y2 y1 y0) fun _ s2 =>
  mt_bnd (mt_up s2 56 16 ((s2 56 16) + (1 : Int32))) fun s3 =>
  some ((), s3)
set_option maxHeartbeats 4000000 in
set_option maxRecDepth 20000 in
theorem vX6_readTreaty_102 {K : mt_C} {fu : Nat} {r : Unit} {σf : mt_St} (hQ : mt_R K none none σf) : ∀ (σ : mt_St) (y0 : Int32) (y1 : Int32) (y2 : Int32) (y3 : Int32) (y4 : Int32) (y5 : Int32), mt_V K cX6_readTreaty RX6 6 6 σ 102 [(0, .ref (mt_adr (kG K) 56))] [.int y0, .int y1, .int y2, .int y3, .int y4, .int y5, .ref (mt_adr (kG K) 56)] (bX6_readTreaty_102 fu σ y0 y1 y2 y3 y4 y5 = some (r, σf)) := by
  intro σ y0 y1 y2 y3 y4 y5
  unfold bX6_readTreaty_102
  refine mv_cVwv (As := [.int y5, .int y4, .int y3, .int y2, .int y1, .int y0]) (st := []) cal_X6_addItem ins_X6_addItem ml_X6_283 rfl (by decide) rfl rfl (by decide) rfl (Nat.le_of_ble_eq_true rfl) dX6_readTreaty_102 (fun r s h => co_X6_addItem h) (fun r1 s2 => ?_)
  refine mv_aload_n 0 dX6_readTreaty_105 rfl rfl ?_
  refine mv_dup dX6_readTreaty_106 rfl ?_
  refine mg_X6_16 fl_X6_265 dX6_readTreaty_107 ?_
  refine mv_iconst (v := 1) dX6_readTreaty_110 ic_1 ?_
  refine mv_iadd dX6_readTreaty_111 ?_
  refine mp_X6_16 fl_X6_265 dX6_readTreaty_112 (fun s3 => ?_)
  exact mv_vret hQ dX6_readTreaty_115
def bX6_readTreaty_77 (fu : Nat) (σ : mt_St) (x1 : Int32) (x2 : Int32) (x3 : Int32) (x4 : Int32) (y0 : Int32) : Option (Unit × mt_St) :=
  mt_call (fX6_takesWord fu σ 9) fun r1 s2 =>
  if r1 = 0 then
    bX6_readTreaty_102 fu s2 (1 : Int32) y0 x4 x3 x2 x1
  else
    bX6_readTreaty_102 fu s2 (0 : Int32) y0 x4 x3 x2 x1
set_option maxHeartbeats 4000000 in
set_option maxRecDepth 20000 in
theorem vX6_readTreaty_77 {K : mt_C} {fu : Nat} {r : Unit} {σf : mt_St} (hQ : mt_R K none none σf) : ∀ (σ : mt_St) (x1 : Int32) (x2 : Int32) (x3 : Int32) (x4 : Int32) (y0 : Int32), mt_V K cX6_readTreaty RX6 6 6 σ 77 [(0, .ref (mt_adr (kG K) 56)), (1, .int x1), (2, .int x2), (3, .int x3), (4, .int x4)] [.int y0] (bX6_readTreaty_77 fu σ x1 x2 x3 x4 y0 = some (r, σf)) := by
  intro σ x1 x2 x3 x4 y0
  unfold bX6_readTreaty_77
  refine mv_istore (lv' := [(0, .ref (mt_adr (kG K) 56)), (1, .int x1), (2, .int x2), (3, .int x3), (4, .int x4), (5, .int y0)]) [1, 2, 3, 4, 5, 0] dX6_readTreaty_77 (by decide) rfl ?_
  refine mv_aload_n 0 dX6_readTreaty_79 rfl rfl ?_
  refine mv_iload_n 1 dX6_readTreaty_80 rfl rfl ?_
  refine mv_iload_n 2 dX6_readTreaty_81 rfl rfl ?_
  refine mv_iload_n 3 dX6_readTreaty_82 rfl rfl ?_
  refine mv_iload 4 dX6_readTreaty_83 rfl ?_
  refine mv_iload 5 dX6_readTreaty_85 rfl ?_
  refine mv_aload_n 0 dX6_readTreaty_87 rfl rfl ?_
  refine mv_ldcSw (List.mem_of_getElem? (i := 22) rfl) dX6_readTreaty_88 ?_
  refine mv_cVwi (As := [.ref (mt_aK (kG K) 9)]) (st := [.int y0, .int x4, .int x3, .int x2, .int x1, .ref (mt_adr (kG K) 56)]) cal_X6_takesWord ins_X6_takesWord ml_X6_276 rfl (by decide) rfl rfl (by decide) rfl (Nat.le_of_ble_eq_true rfl) dX6_readTreaty_91 (fun r s h => co_X6_takesWord (by decide) h) (fun r1 s2 => ?_)
  refine mv_if_eq 101 dX6_readTreaty_94 (by decide) ?_ ?_
  · refine mv_iconst (v := 1) dX6_readTreaty_101 ic_1 ?_
    refine mv_sub (lv' := [(0, .ref (mt_adr (kG K) 56))]) [0] rfl ?_
    exact vX6_readTreaty_102 hQ s2 (1 : Int32) y0 x4 x3 x2 x1
  · refine mv_iconst (v := 0) dX6_readTreaty_97 ic_0 ?_
    refine mv_goto 102 dX6_readTreaty_98 (by decide) ?_
    refine mv_sub (lv' := [(0, .ref (mt_adr (kG K) 56))]) [0] rfl ?_
    exact vX6_readTreaty_102 hQ s2 (0 : Int32) y0 x4 x3 x2 x1
def bX6_readTreaty_53 (fu : Nat) (σ : mt_St) (x1 : Int32) (x2 : Int32) (x3 : Int32) (y0 : Int32) : Option (Unit × mt_St) :=
  mt_call (fX6_takesWord fu σ 8) fun r1 s2 =>
  if r1 = 0 then
    bX6_readTreaty_77 fu s2 x1 x2 x3 y0 (0 : Int32)
  else
    mt_call (fX6_number fu s2 (0 : Int32) (9999 : Int32)) fun r3 s4 =>
    bX6_readTreaty_77 fu s4 x1 x2 x3 y0 r3
set_option maxHeartbeats 4000000 in
set_option maxRecDepth 20000 in
theorem vX6_readTreaty_53 {K : mt_C} {fu : Nat} {r : Unit} {σf : mt_St} (hQ : mt_R K none none σf) : ∀ (σ : mt_St) (x1 : Int32) (x2 : Int32) (x3 : Int32) (y0 : Int32), mt_V K cX6_readTreaty RX6 6 6 σ 53 [(0, .ref (mt_adr (kG K) 56)), (1, .int x1), (2, .int x2), (3, .int x3)] [.int y0] (bX6_readTreaty_53 fu σ x1 x2 x3 y0 = some (r, σf)) := by
  intro σ x1 x2 x3 y0
  unfold bX6_readTreaty_53
  refine mv_istore (lv' := [(0, .ref (mt_adr (kG K) 56)), (1, .int x1), (2, .int x2), (3, .int x3), (4, .int y0)]) [1, 2, 3, 4, 0] dX6_readTreaty_53 (by decide) rfl ?_
  refine mv_aload_n 0 dX6_readTreaty_55 rfl rfl ?_
  refine mv_ldcSw (List.mem_of_getElem? (i := 21) rfl) dX6_readTreaty_56 ?_
  refine mv_cVwi (As := [.ref (mt_aK (kG K) 8)]) (st := []) cal_X6_takesWord ins_X6_takesWord ml_X6_276 rfl (by decide) rfl rfl (by decide) rfl (Nat.le_of_ble_eq_true rfl) dX6_readTreaty_59 (fun r s h => co_X6_takesWord (by decide) h) (fun r1 s2 => ?_)
  refine mv_if_eq 76 dX6_readTreaty_62 (by decide) ?_ ?_
  · refine mv_iconst (v := 0) dX6_readTreaty_76 ic_0 ?_
    exact vX6_readTreaty_77 hQ s2 x1 x2 x3 y0 (0 : Int32)
  · refine mv_aload_n 0 dX6_readTreaty_65 rfl rfl ?_
    refine mv_iconst (v := 0) dX6_readTreaty_66 ic_0 ?_
    refine mv_sipush (v := 9999) dX6_readTreaty_67 sp_9999 ?_
    refine mv_cVwi (As := [.int (0 : Int32), .int (9999 : Int32)]) (st := []) cal_X6_number ins_X6_number ml_X6_268 rfl (by decide) rfl rfl (by decide) rfl (Nat.le_of_ble_eq_true rfl) dX6_readTreaty_70 (fun r s h => co_X6_number h) (fun r3 s4 => ?_)
    refine mv_goto 77 dX6_readTreaty_73 (by decide) ?_
    exact vX6_readTreaty_77 hQ s4 x1 x2 x3 y0 r3
def bX6_readTreaty_15 (fu : Nat) (σ : mt_St) (x1 : Int32) (y0 : Int32) : Option (Unit × mt_St) :=
  mt_call (fX6_must fu σ y0) fun _ s2 =>
  mt_call (fX6_number fu s2 (0 : Int32) (5 : Int32)) fun r3 s4 =>
  mt_call (fX6_otherThan fu s4 r3) fun r5 s6 =>
  mt_call (fX6_takesWord fu s6 7) fun r7 s8 =>
  if r7 = 0 then
    bX6_readTreaty_53 fu s8 x1 r3 r5 (-1 : Int32)
  else
    mt_call (fX6_number fu s8 (0 : Int32) (4095 : Int32)) fun r9 s10 =>
    bX6_readTreaty_53 fu s10 x1 r3 r5 r9
set_option maxHeartbeats 4000000 in
set_option maxRecDepth 20000 in
theorem vX6_readTreaty_15 {K : mt_C} {fu : Nat} {r : Unit} {σf : mt_St} (hQ : mt_R K none none σf) : ∀ (σ : mt_St) (x1 : Int32) (y0 : Int32), mt_V K cX6_readTreaty RX6 6 6 σ 15 [(0, .ref (mt_adr (kG K) 56)), (1, .int x1)] [.int y0, .ref (mt_adr (kG K) 56)] (bX6_readTreaty_15 fu σ x1 y0 = some (r, σf)) := by
  intro σ x1 y0
  unfold bX6_readTreaty_15
  refine mv_cVwv (As := [.int y0]) (st := []) cal_X6_must ins_X6_must ml_X6_254 rfl (by decide) rfl rfl (by decide) rfl (Nat.le_of_ble_eq_true rfl) dX6_readTreaty_15 (fun r s h => co_X6_must h) (fun r1 s2 => ?_)
  refine mv_aload_n 0 dX6_readTreaty_18 rfl rfl ?_
  refine mv_iconst (v := 0) dX6_readTreaty_19 ic_0 ?_
  refine mv_iconst (v := 5) dX6_readTreaty_20 ic_5 ?_
  refine mv_cVwi (As := [.int (0 : Int32), .int (5 : Int32)]) (st := []) cal_X6_number ins_X6_number ml_X6_268 rfl (by decide) rfl rfl (by decide) rfl (Nat.le_of_ble_eq_true rfl) dX6_readTreaty_21 (fun r s h => co_X6_number h) (fun r3 s4 => ?_)
  refine mv_istore_n (lv' := [(0, .ref (mt_adr (kG K) 56)), (1, .int x1), (2, .int r3)]) [1, 2, 0] dX6_readTreaty_24 rfl (by decide) rfl ?_
  refine mv_aload_n 0 dX6_readTreaty_25 rfl rfl ?_
  refine mv_iload_n 2 dX6_readTreaty_26 rfl rfl ?_
  refine mv_cVwi (As := [.int r3]) (st := []) cal_X6_otherThan ins_X6_otherThan ml_X6_271 rfl (by decide) rfl rfl (by decide) rfl (Nat.le_of_ble_eq_true rfl) dX6_readTreaty_27 (fun r s h => co_X6_otherThan h) (fun r5 s6 => ?_)
  refine mv_istore_n (lv' := [(0, .ref (mt_adr (kG K) 56)), (1, .int x1), (2, .int r3), (3, .int r5)]) [1, 2, 3, 0] dX6_readTreaty_30 rfl (by decide) rfl ?_
  refine mv_aload_n 0 dX6_readTreaty_31 rfl rfl ?_
  refine mv_ldcSw (List.mem_of_getElem? (i := 20) rfl) dX6_readTreaty_32 ?_
  refine mv_cVwi (As := [.ref (mt_aK (kG K) 7)]) (st := []) cal_X6_takesWord ins_X6_takesWord ml_X6_276 rfl (by decide) rfl rfl (by decide) rfl (Nat.le_of_ble_eq_true rfl) dX6_readTreaty_35 (fun r s h => co_X6_takesWord (by decide) h) (fun r7 s8 => ?_)
  refine mv_if_eq 52 dX6_readTreaty_38 (by decide) ?_ ?_
  · refine mv_iconst (v := -1) dX6_readTreaty_52 ic_m1 ?_
    exact vX6_readTreaty_53 hQ s8 x1 r3 r5 (-1 : Int32)
  · refine mv_aload_n 0 dX6_readTreaty_41 rfl rfl ?_
    refine mv_iconst (v := 0) dX6_readTreaty_42 ic_0 ?_
    refine mv_sipush (v := 4095) dX6_readTreaty_43 sp_4095 ?_
    refine mv_cVwi (As := [.int (0 : Int32), .int (4095 : Int32)]) (st := []) cal_X6_number ins_X6_number ml_X6_268 rfl (by decide) rfl rfl (by decide) rfl (Nat.le_of_ble_eq_true rfl) dX6_readTreaty_46 (fun r s h => co_X6_number h) (fun r9 s10 => ?_)
    refine mv_goto 53 dX6_readTreaty_49 (by decide) ?_
    exact vX6_readTreaty_53 hQ s10 x1 r3 r5 r9
def fX6_readTreaty (fu : Nat) (σ : mt_St) (a1 : Int32) : Option (Unit × mt_St) :=
  if (8 : Int32) ≤ (σ 56 16) then
    bX6_readTreaty_15 fu σ a1 (0 : Int32)
  else
    bX6_readTreaty_15 fu σ a1 (1 : Int32)
set_option maxHeartbeats 4000000 in
set_option maxRecDepth 20000 in
theorem vX6_readTreaty {K : mt_C} {fu : Nat} {σ : mt_St} {a1 : Int32} {r : Unit} {σf : mt_St} (hQ : mt_R K none none σf) : mt_V K cX6_readTreaty RX6 6 6 σ 0 [(0, .ref (mt_adr (kG K) 56)), (1, .int a1)] [] (fX6_readTreaty fu σ a1 = some (r, σf)) := by
  unfold fX6_readTreaty
  refine mv_aload_n 0 dX6_readTreaty_0 rfl rfl ?_
  refine mv_aload_n 0 dX6_readTreaty_1 rfl rfl ?_
  refine mg_X6_16 fl_X6_265 dX6_readTreaty_2 ?_
  refine mv_bipush (v := 8) dX6_readTreaty_5 bp_8 ?_
  refine mv_icmp_ge 14 dX6_readTreaty_7 (by decide) ?_ ?_
  · refine mv_iconst (v := 0) dX6_readTreaty_14 ic_0 ?_
    exact vX6_readTreaty_15 hQ σ a1 (0 : Int32)
  · refine mv_iconst (v := 1) dX6_readTreaty_10 ic_1 ?_
    refine mv_goto 15 dX6_readTreaty_11 (by decide) ?_
    exact vX6_readTreaty_15 hQ σ a1 (1 : Int32)
theorem co_X6_readTreaty {l : Launch} {G : mt_G} {fu : Nat} {σ : mt_St} {a1 : Int32} {r : Unit} {σf : mt_St}  (h : fX6_readTreaty fu σ a1 = some (r, σf)) : mt_Con l G yX6_readTreaty cX6_readTreaty 6 none 6 [.ref (mt_adr G 56), .int a1] σ none σf :=
  mt_con (by decide) (Nat.le_of_ble_eq_true rfl) (fun K hl hG hQ => by subst hl; subst hG; exact fun _ => vX6_readTreaty  hQ h)
theorem dX6_readItem_0 : decode cX6_readItem 0 = .ok (.iconst (-1), 1) := by decide +kernel
theorem dX6_readItem_1 : decode cX6_readItem 1 = .ok (.istore_n 1, 1) := by decide +kernel
theorem dX6_readItem_2 : decode cX6_readItem 2 = .ok (.iconst 0, 1) := by decide +kernel
theorem dX6_readItem_3 : decode cX6_readItem 3 = .ok (.istore_n 2, 1) := by decide +kernel
theorem dX6_readItem_4 : decode cX6_readItem 4 = .ok (.iload_n 2, 1) := by decide +kernel
theorem dX6_readItem_5 : decode cX6_readItem 5 = .ok (.aload_n 0, 1) := by decide +kernel
theorem dX6_readItem_6 : decode cX6_readItem 6 = .ok (.getfield 41, 3) := by decide +kernel
theorem dX6_readItem_9 : decode cX6_readItem 9 = .ok (.arraylength, 1) := by decide +kernel
theorem dX6_readItem_10 : decode cX6_readItem 10 = .ok (.if_icmp .ge 28, 3) := by decide +kernel
theorem dX6_readItem_13 : decode cX6_readItem 13 = .ok (.aload_n 0, 1) := by decide +kernel
theorem dX6_readItem_14 : decode cX6_readItem 14 = .ok (.aload_n 0, 1) := by decide +kernel
theorem dX6_readItem_15 : decode cX6_readItem 15 = .ok (.getfield 41, 3) := by decide +kernel
theorem dX6_readItem_18 : decode cX6_readItem 18 = .ok (.iload_n 2, 1) := by decide +kernel
theorem dX6_readItem_19 : decode cX6_readItem 19 = .ok (.aaload, 1) := by decide +kernel
theorem dX6_readItem_20 : decode cX6_readItem 20 = .ok (.invokevirtual 261, 3) := by decide +kernel
theorem dX6_readItem_23 : decode cX6_readItem 23 = .ok (.ifCond .eq 7, 3) := by decide +kernel
theorem dX6_readItem_26 : decode cX6_readItem 26 = .ok (.iload_n 2, 1) := by decide +kernel
theorem dX6_readItem_27 : decode cX6_readItem 27 = .ok (.goto 4, 3) := by decide +kernel
theorem dX6_readItem_30 : decode cX6_readItem 30 = .ok (.iload_n 1, 1) := by decide +kernel
theorem dX6_readItem_31 : decode cX6_readItem 31 = .ok (.istore_n 1, 1) := by decide +kernel
theorem dX6_readItem_32 : decode cX6_readItem 32 = .ok (.iinc 2 1, 3) := by decide +kernel
theorem dX6_readItem_35 : decode cX6_readItem 35 = .ok (.goto (-31), 3) := by decide +kernel
theorem dX6_readItem_38 : decode cX6_readItem 38 = .ok (.iload_n 1, 1) := by decide +kernel
theorem dX6_readItem_39 : decode cX6_readItem 39 = .ok (.ifCond .lt 11, 3) := by decide +kernel
theorem dX6_readItem_42 : decode cX6_readItem 42 = .ok (.aload_n 0, 1) := by decide +kernel
theorem dX6_readItem_43 : decode cX6_readItem 43 = .ok (.iload_n 1, 1) := by decide +kernel
theorem dX6_readItem_44 : decode cX6_readItem 44 = .ok (.invokevirtual 287, 3) := by decide +kernel
theorem dX6_readItem_47 : decode cX6_readItem 47 = .ok (.goto 107, 3) := by decide +kernel
theorem dX6_readItem_50 : decode cX6_readItem 50 = .ok (.aload_n 0, 1) := by decide +kernel
theorem dX6_readItem_51 : decode cX6_readItem 51 = .ok (.ldc_w 290, 3) := by decide +kernel
theorem dX6_readItem_54 : decode cX6_readItem 54 = .ok (.invokevirtual 276, 3) := by decide +kernel
theorem dX6_readItem_57 : decode cX6_readItem 57 = .ok (.ifCond .eq 24, 3) := by decide +kernel
theorem dX6_readItem_60 : decode cX6_readItem 60 = .ok (.aload_n 0, 1) := by decide +kernel
theorem dX6_readItem_61 : decode cX6_readItem 61 = .ok (.bipush 10, 2) := by decide +kernel
theorem dX6_readItem_63 : decode cX6_readItem 63 = .ok (.aload_n 0, 1) := by decide +kernel
theorem dX6_readItem_64 : decode cX6_readItem 64 = .ok (.iconst 0, 1) := by decide +kernel
theorem dX6_readItem_65 : decode cX6_readItem 65 = .ok (.sipush 4095, 3) := by decide +kernel
theorem dX6_readItem_68 : decode cX6_readItem 68 = .ok (.invokevirtual 268, 3) := by decide +kernel
theorem dX6_readItem_71 : decode cX6_readItem 71 = .ok (.iconst 0, 1) := by decide +kernel
theorem dX6_readItem_72 : decode cX6_readItem 72 = .ok (.iconst 0, 1) := by decide +kernel
theorem dX6_readItem_73 : decode cX6_readItem 73 = .ok (.iconst 0, 1) := by decide +kernel
theorem dX6_readItem_74 : decode cX6_readItem 74 = .ok (.iconst 0, 1) := by decide +kernel
theorem dX6_readItem_75 : decode cX6_readItem 75 = .ok (.invokevirtual 283, 3) := by decide +kernel
theorem dX6_readItem_78 : decode cX6_readItem 78 = .ok (.goto 76, 3) := by decide +kernel
theorem dX6_readItem_81 : decode cX6_readItem 81 = .ok (.aload_n 0, 1) := by decide +kernel
theorem dX6_readItem_82 : decode cX6_readItem 82 = .ok (.ldc_w 292, 3) := by decide +kernel
theorem dX6_readItem_85 : decode cX6_readItem 85 = .ok (.invokevirtual 276, 3) := by decide +kernel
theorem dX6_readItem_88 : decode cX6_readItem 88 = .ok (.ifCond .eq 24, 3) := by decide +kernel
theorem dX6_readItem_91 : decode cX6_readItem 91 = .ok (.aload_n 0, 1) := by decide +kernel
theorem dX6_readItem_92 : decode cX6_readItem 92 = .ok (.bipush 11, 2) := by decide +kernel
theorem dX6_readItem_94 : decode cX6_readItem 94 = .ok (.aload_n 0, 1) := by decide +kernel
theorem dX6_readItem_95 : decode cX6_readItem 95 = .ok (.iconst 0, 1) := by decide +kernel
theorem dX6_readItem_96 : decode cX6_readItem 96 = .ok (.sipush 4095, 3) := by decide +kernel
theorem dX6_readItem_99 : decode cX6_readItem 99 = .ok (.invokevirtual 268, 3) := by decide +kernel
theorem dX6_readItem_102 : decode cX6_readItem 102 = .ok (.iconst 0, 1) := by decide +kernel
theorem dX6_readItem_103 : decode cX6_readItem 103 = .ok (.iconst 0, 1) := by decide +kernel
theorem dX6_readItem_104 : decode cX6_readItem 104 = .ok (.iconst 0, 1) := by decide +kernel
theorem dX6_readItem_105 : decode cX6_readItem 105 = .ok (.iconst 0, 1) := by decide +kernel
theorem dX6_readItem_106 : decode cX6_readItem 106 = .ok (.invokevirtual 283, 3) := by decide +kernel
theorem dX6_readItem_109 : decode cX6_readItem 109 = .ok (.goto 45, 3) := by decide +kernel
theorem dX6_readItem_112 : decode cX6_readItem 112 = .ok (.aload_n 0, 1) := by decide +kernel
theorem dX6_readItem_113 : decode cX6_readItem 113 = .ok (.ldc_w 294, 3) := by decide +kernel
theorem dX6_readItem_116 : decode cX6_readItem 116 = .ok (.invokevirtual 276, 3) := by decide +kernel
theorem dX6_readItem_119 : decode cX6_readItem 119 = .ok (.ifCond .eq 30, 3) := by decide +kernel
theorem dX6_readItem_122 : decode cX6_readItem 122 = .ok (.aload_n 0, 1) := by decide +kernel
theorem dX6_readItem_123 : decode cX6_readItem 123 = .ok (.iconst 0, 1) := by decide +kernel
theorem dX6_readItem_124 : decode cX6_readItem 124 = .ok (.iconst 5, 1) := by decide +kernel
theorem dX6_readItem_125 : decode cX6_readItem 125 = .ok (.invokevirtual 268, 3) := by decide +kernel
theorem dX6_readItem_128 : decode cX6_readItem 128 = .ok (.istore_n 2, 1) := by decide +kernel
theorem dX6_readItem_129 : decode cX6_readItem 129 = .ok (.aload_n 0, 1) := by decide +kernel
theorem dX6_readItem_130 : decode cX6_readItem 130 = .ok (.bipush 12, 2) := by decide +kernel
theorem dX6_readItem_132 : decode cX6_readItem 132 = .ok (.iload_n 2, 1) := by decide +kernel
theorem dX6_readItem_133 : decode cX6_readItem 133 = .ok (.aload_n 0, 1) := by decide +kernel
theorem dX6_readItem_134 : decode cX6_readItem 134 = .ok (.iconst 0, 1) := by decide +kernel
theorem dX6_readItem_135 : decode cX6_readItem 135 = .ok (.bipush 12, 2) := by decide +kernel
theorem dX6_readItem_137 : decode cX6_readItem 137 = .ok (.invokevirtual 268, 3) := by decide +kernel
theorem dX6_readItem_140 : decode cX6_readItem 140 = .ok (.iconst 0, 1) := by decide +kernel
theorem dX6_readItem_141 : decode cX6_readItem 141 = .ok (.iconst 0, 1) := by decide +kernel
theorem dX6_readItem_142 : decode cX6_readItem 142 = .ok (.iconst 0, 1) := by decide +kernel
theorem dX6_readItem_143 : decode cX6_readItem 143 = .ok (.invokevirtual 283, 3) := by decide +kernel
theorem dX6_readItem_146 : decode cX6_readItem 146 = .ok (.goto 8, 3) := by decide +kernel
theorem dX6_readItem_149 : decode cX6_readItem 149 = .ok (.aload_n 0, 1) := by decide +kernel
theorem dX6_readItem_150 : decode cX6_readItem 150 = .ok (.iconst 0, 1) := by decide +kernel
theorem dX6_readItem_151 : decode cX6_readItem 151 = .ok (.invokevirtual 254, 3) := by decide +kernel
theorem dX6_readItem_154 : decode cX6_readItem 154 = .ok (.return_, 1) := by decide +kernel
def bX6_readItem_154 (fu : Nat) (σ : mt_St) : Option (Unit × mt_St) :=
  some ((), σ)
set_option maxHeartbeats 4000000 in
set_option maxRecDepth 20000 in
theorem vX6_readItem_154 {K : mt_C} {fu : Nat} {r : Unit} {σf : mt_St} (hQ : mt_R K none none σf) : ∀ (σ : mt_St), mt_V K cX6_readItem RX6 3 7 σ 154 [] [] (bX6_readItem_154 fu σ = some (r, σf)) := by
  intro σ
  unfold bX6_readItem_154
  exact mv_vret hQ dX6_readItem_154
def bX6_readItem_31 (fu : Nat) (k4 : mt_St → Int32 → Int32 → Option (Unit × mt_St)) (σ : mt_St) (x2 : Int32) (y0 : Int32) : Option (Unit × mt_St) :=
  k4 σ y0 (x2 + 1)
set_option maxHeartbeats 4000000 in
set_option maxRecDepth 20000 in
theorem vX6_readItem_31 {K : mt_C} {fu : Nat} {r : Unit} {σf : mt_St} (hQ : mt_R K none none σf) {k4 : mt_St → Int32 → Int32 → Option (Unit × mt_St)} (hk4 : ∀ (s0 : mt_St) (x1 : Int32) (x2 : Int32), mt_V K cX6_readItem RX6 3 7 s0 4 [(0, .ref (mt_adr (kG K) 56)), (1, .int x1), (2, .int x2)] [] (k4 s0 x1 x2 = some (r, σf))) : ∀ (σ : mt_St) (x2 : Int32) (y0 : Int32), mt_V K cX6_readItem RX6 3 7 σ 31 [(0, .ref (mt_adr (kG K) 56)), (2, .int x2)] [.int y0] (bX6_readItem_31 fu k4 σ x2 y0 = some (r, σf)) := by
  intro σ x2 y0
  unfold bX6_readItem_31
  refine mv_istore_n (lv' := [(0, .ref (mt_adr (kG K) 56)), (1, .int y0), (2, .int x2)]) [1, 0, 2] dX6_readItem_31 rfl (by decide) rfl ?_
  refine mv_iinc (k0 := 2) (v := x2 + 1) (lv' := [(0, .ref (mt_adr (kG K) 56)), (1, .int y0), (2, .int (x2 + 1))]) [1, 2, 0] dX6_readItem_32 rfl (mt_inc ic_1) (by decide) rfl ?_
  refine mv_goto 4 dX6_readItem_35 (by decide) ?_
  exact hk4 σ y0 (x2 + 1)
def bX6_readItem_4 (fu : Nat) : Nat → mt_St → Int32 → Int32 → Option (Unit × mt_St)
  | 0, _, _, _ => none
  | n + 1, σ, x1, x2 =>
    if (7 : Int32) ≤ x2 then
      if x1 < 0 then
        mt_call (fX6_takesWord fu σ 10) fun r1 s2 =>
        if r1 = 0 then
          mt_call (fX6_takesWord fu s2 11) fun r3 s4 =>
          if r3 = 0 then
            mt_call (fX6_takesWord fu s4 12) fun r5 s6 =>
            if r5 = 0 then
              mt_call (fX6_must fu s6 (0 : Int32)) fun _ s8 =>
              bX6_readItem_154 fu s8
            else
              mt_call (fX6_number fu s6 (0 : Int32) (5 : Int32)) fun r9 s10 =>
              mt_call (fX6_number fu s10 (0 : Int32) (12 : Int32)) fun r11 s12 =>
              mt_call (fX6_addItem fu s12 (12 : Int32) r9 r11 (0 : Int32) (0 : Int32) (0 : Int32)) fun _ s14 =>
              bX6_readItem_154 fu s14
          else
            mt_call (fX6_number fu s4 (0 : Int32) (4095 : Int32)) fun r15 s16 =>
            mt_call (fX6_addItem fu s16 (11 : Int32) r15 (0 : Int32) (0 : Int32) (0 : Int32) (0 : Int32)) fun _ s18 =>
            bX6_readItem_154 fu s18
        else
          mt_call (fX6_number fu s2 (0 : Int32) (4095 : Int32)) fun r19 s20 =>
          mt_call (fX6_addItem fu s20 (10 : Int32) r19 (0 : Int32) (0 : Int32) (0 : Int32) (0 : Int32)) fun _ s22 =>
          bX6_readItem_154 fu s22
      else
        mt_call (fX6_readTreaty fu σ x1) fun _ s24 =>
        bX6_readItem_154 fu s24
    else
      mt_chk (mt_in x2 7) <|
      mt_ask (fX6_isWord fu σ (Int32.toNatClampNeg x2)) fun r26 =>
      if r26 = 0 then
        bX6_readItem_31 fu (fun s0 x1 x2 => bX6_readItem_4 fu n s0 x1 x2) σ x2 x1
      else
        bX6_readItem_31 fu (fun s0 x1 x2 => bX6_readItem_4 fu n s0 x1 x2) σ x2 x2
set_option maxHeartbeats 4000000 in
set_option maxRecDepth 20000 in
theorem vX6_readItem_4 {K : mt_C} {fu : Nat} {r : Unit} {σf : mt_St} (hQ : mt_R K none none σf) : ∀ (n : Nat) (σ : mt_St) (x1 : Int32) (x2 : Int32), mt_V K cX6_readItem RX6 3 7 σ 4 [(0, .ref (mt_adr (kG K) 56)), (1, .int x1), (2, .int x2)] [] (bX6_readItem_4 fu n σ x1 x2 = some (r, σf)) := by
  intro n
  induction n with
  | zero => intro σ x1 x2; intro hP; unfold bX6_readItem_4 at hP; cases hP
  | succ n ih =>
    intro σ x1 x2
    unfold bX6_readItem_4
    refine mv_iload_n 2 dX6_readItem_4 rfl rfl ?_
    refine mv_aload_n 0 dX6_readItem_5 rfl rfl ?_
    refine mg_X6_13 fl_X6_41 dX6_readItem_6 ?_
    refine mv_alenS (v := 7) 7 rfl rfl (by decide) dX6_readItem_9 ?_
    refine mv_icmp_ge 38 dX6_readItem_10 (by decide) ?_ ?_
    · refine mv_iload_n 1 dX6_readItem_38 rfl rfl ?_
      refine mv_if_lt 50 dX6_readItem_39 (by decide) ?_ ?_
      · refine mv_aload_n 0 dX6_readItem_50 rfl rfl ?_
        refine mv_ldcSw (List.mem_of_getElem? (i := 23) rfl) dX6_readItem_51 ?_
        refine mv_cVwi (As := [.ref (mt_aK (kG K) 10)]) (st := []) cal_X6_takesWord ins_X6_takesWord ml_X6_276 rfl (by decide) rfl rfl (by decide) rfl (Nat.le_of_ble_eq_true rfl) dX6_readItem_54 (fun r s h => co_X6_takesWord (by decide) h) (fun r1 s2 => ?_)
        refine mv_if_eq 81 dX6_readItem_57 (by decide) ?_ ?_
        · refine mv_aload_n 0 dX6_readItem_81 rfl rfl ?_
          refine mv_ldcSw (List.mem_of_getElem? (i := 24) rfl) dX6_readItem_82 ?_
          refine mv_cVwi (As := [.ref (mt_aK (kG K) 11)]) (st := []) cal_X6_takesWord ins_X6_takesWord ml_X6_276 rfl (by decide) rfl rfl (by decide) rfl (Nat.le_of_ble_eq_true rfl) dX6_readItem_85 (fun r s h => co_X6_takesWord (by decide) h) (fun r3 s4 => ?_)
          refine mv_if_eq 112 dX6_readItem_88 (by decide) ?_ ?_
          · refine mv_aload_n 0 dX6_readItem_112 rfl rfl ?_
            refine mv_ldcSw (List.mem_of_getElem? (i := 25) rfl) dX6_readItem_113 ?_
            refine mv_cVwi (As := [.ref (mt_aK (kG K) 12)]) (st := []) cal_X6_takesWord ins_X6_takesWord ml_X6_276 rfl (by decide) rfl rfl (by decide) rfl (Nat.le_of_ble_eq_true rfl) dX6_readItem_116 (fun r s h => co_X6_takesWord (by decide) h) (fun r5 s6 => ?_)
            refine mv_if_eq 149 dX6_readItem_119 (by decide) ?_ ?_
            · refine mv_aload_n 0 dX6_readItem_149 rfl rfl ?_
              refine mv_iconst (v := 0) dX6_readItem_150 ic_0 ?_
              refine mv_cVwv (As := [.int (0 : Int32)]) (st := []) cal_X6_must ins_X6_must ml_X6_254 rfl (by decide) rfl rfl (by decide) rfl (Nat.le_of_ble_eq_true rfl) dX6_readItem_151 (fun r s h => co_X6_must h) (fun r7 s8 => ?_)
              refine mv_sub (lv' := []) [] rfl ?_
              exact vX6_readItem_154 hQ s8
            · refine mv_aload_n 0 dX6_readItem_122 rfl rfl ?_
              refine mv_iconst (v := 0) dX6_readItem_123 ic_0 ?_
              refine mv_iconst (v := 5) dX6_readItem_124 ic_5 ?_
              refine mv_cVwi (As := [.int (0 : Int32), .int (5 : Int32)]) (st := []) cal_X6_number ins_X6_number ml_X6_268 rfl (by decide) rfl rfl (by decide) rfl (Nat.le_of_ble_eq_true rfl) dX6_readItem_125 (fun r s h => co_X6_number h) (fun r9 s10 => ?_)
              refine mv_istore_n (lv' := [(0, .ref (mt_adr (kG K) 56)), (2, .int r9)]) [1, 0] dX6_readItem_128 rfl (by decide) rfl ?_
              refine mv_aload_n 0 dX6_readItem_129 rfl rfl ?_
              refine mv_bipush (v := 12) dX6_readItem_130 bp_12 ?_
              refine mv_iload_n 1 dX6_readItem_132 rfl rfl ?_
              refine mv_aload_n 0 dX6_readItem_133 rfl rfl ?_
              refine mv_iconst (v := 0) dX6_readItem_134 ic_0 ?_
              refine mv_bipush (v := 12) dX6_readItem_135 bp_12 ?_
              refine mv_cVwi (As := [.int (0 : Int32), .int (12 : Int32)]) (st := [.int r9, .int (12 : Int32), .ref (mt_adr (kG K) 56)]) cal_X6_number ins_X6_number ml_X6_268 rfl (by decide) rfl rfl (by decide) rfl (Nat.le_of_ble_eq_true rfl) dX6_readItem_137 (fun r s h => co_X6_number h) (fun r11 s12 => ?_)
              refine mv_iconst (v := 0) dX6_readItem_140 ic_0 ?_
              refine mv_iconst (v := 0) dX6_readItem_141 ic_0 ?_
              refine mv_iconst (v := 0) dX6_readItem_142 ic_0 ?_
              refine mv_cVwv (As := [.int (12 : Int32), .int r9, .int r11, .int (0 : Int32), .int (0 : Int32), .int (0 : Int32)]) (st := []) cal_X6_addItem ins_X6_addItem ml_X6_283 rfl (by decide) rfl rfl (by decide) rfl (Nat.le_of_ble_eq_true rfl) dX6_readItem_143 (fun r s h => co_X6_addItem h) (fun r13 s14 => ?_)
              refine mv_goto 154 dX6_readItem_146 (by decide) ?_
              refine mv_sub (lv' := []) [] rfl ?_
              exact vX6_readItem_154 hQ s14
          · refine mv_aload_n 0 dX6_readItem_91 rfl rfl ?_
            refine mv_bipush (v := 11) dX6_readItem_92 bp_11 ?_
            refine mv_aload_n 0 dX6_readItem_94 rfl rfl ?_
            refine mv_iconst (v := 0) dX6_readItem_95 ic_0 ?_
            refine mv_sipush (v := 4095) dX6_readItem_96 sp_4095 ?_
            refine mv_cVwi (As := [.int (0 : Int32), .int (4095 : Int32)]) (st := [.int (11 : Int32), .ref (mt_adr (kG K) 56)]) cal_X6_number ins_X6_number ml_X6_268 rfl (by decide) rfl rfl (by decide) rfl (Nat.le_of_ble_eq_true rfl) dX6_readItem_99 (fun r s h => co_X6_number h) (fun r15 s16 => ?_)
            refine mv_iconst (v := 0) dX6_readItem_102 ic_0 ?_
            refine mv_iconst (v := 0) dX6_readItem_103 ic_0 ?_
            refine mv_iconst (v := 0) dX6_readItem_104 ic_0 ?_
            refine mv_iconst (v := 0) dX6_readItem_105 ic_0 ?_
            refine mv_cVwv (As := [.int (11 : Int32), .int r15, .int (0 : Int32), .int (0 : Int32), .int (0 : Int32), .int (0 : Int32)]) (st := []) cal_X6_addItem ins_X6_addItem ml_X6_283 rfl (by decide) rfl rfl (by decide) rfl (Nat.le_of_ble_eq_true rfl) dX6_readItem_106 (fun r s h => co_X6_addItem h) (fun r17 s18 => ?_)
            refine mv_goto 154 dX6_readItem_109 (by decide) ?_
            refine mv_sub (lv' := []) [] rfl ?_
            exact vX6_readItem_154 hQ s18
        · refine mv_aload_n 0 dX6_readItem_60 rfl rfl ?_
          refine mv_bipush (v := 10) dX6_readItem_61 bp_10 ?_
          refine mv_aload_n 0 dX6_readItem_63 rfl rfl ?_
          refine mv_iconst (v := 0) dX6_readItem_64 ic_0 ?_
          refine mv_sipush (v := 4095) dX6_readItem_65 sp_4095 ?_
          refine mv_cVwi (As := [.int (0 : Int32), .int (4095 : Int32)]) (st := [.int (10 : Int32), .ref (mt_adr (kG K) 56)]) cal_X6_number ins_X6_number ml_X6_268 rfl (by decide) rfl rfl (by decide) rfl (Nat.le_of_ble_eq_true rfl) dX6_readItem_68 (fun r s h => co_X6_number h) (fun r19 s20 => ?_)
          refine mv_iconst (v := 0) dX6_readItem_71 ic_0 ?_
          refine mv_iconst (v := 0) dX6_readItem_72 ic_0 ?_
          refine mv_iconst (v := 0) dX6_readItem_73 ic_0 ?_
          refine mv_iconst (v := 0) dX6_readItem_74 ic_0 ?_
          refine mv_cVwv (As := [.int (10 : Int32), .int r19, .int (0 : Int32), .int (0 : Int32), .int (0 : Int32), .int (0 : Int32)]) (st := []) cal_X6_addItem ins_X6_addItem ml_X6_283 rfl (by decide) rfl rfl (by decide) rfl (Nat.le_of_ble_eq_true rfl) dX6_readItem_75 (fun r s h => co_X6_addItem h) (fun r21 s22 => ?_)
          refine mv_goto 154 dX6_readItem_78 (by decide) ?_
          refine mv_sub (lv' := []) [] rfl ?_
          exact vX6_readItem_154 hQ s22
      · refine mv_aload_n 0 dX6_readItem_42 rfl rfl ?_
        refine mv_iload_n 1 dX6_readItem_43 rfl rfl ?_
        refine mv_cVwv (As := [.int x1]) (st := []) cal_X6_readTreaty ins_X6_readTreaty ml_X6_287 rfl (by decide) rfl rfl (by decide) rfl (Nat.le_of_ble_eq_true rfl) dX6_readItem_44 (fun r s h => co_X6_readTreaty h) (fun r23 s24 => ?_)
        refine mv_goto 154 dX6_readItem_47 (by decide) ?_
        refine mv_sub (lv' := []) [] rfl ?_
        exact vX6_readItem_154 hQ s24
    · refine mv_aload_n 0 dX6_readItem_13 rfl rfl ?_
      refine mv_aload_n 0 dX6_readItem_14 rfl rfl ?_
      refine mg_X6_13 fl_X6_41 dX6_readItem_15 ?_
      refine mv_iload_n 2 dX6_readItem_18 rfl rfl ?_
      refine mv_aaldN rfl rfl dX6_readItem_19 (fun h25 => ?_)
      refine mv_cVri (As := [.ref (mt_aK (kG K) (Int32.toNatClampNeg x2))]) (st := []) cal_X6_isWord ins_X6_isWord ml_X6_261 rfl (by decide) rfl rfl (by decide) rfl (Nat.le_of_ble_eq_true rfl) dX6_readItem_20 (fun r h => co_X6_isWord (st_lt h25) h) (fun r26 => ?_)
      refine mv_if_eq 30 dX6_readItem_23 (by decide) ?_ ?_
      · refine mv_iload_n 1 dX6_readItem_30 rfl rfl ?_
        refine mv_sub (lv' := [(0, .ref (mt_adr (kG K) 56)), (2, .int x2)]) [0, 2] rfl ?_
        exact vX6_readItem_31 hQ (fun s0 x1 x2 => ih s0 x1 x2) σ x2 x1
      · refine mv_iload_n 2 dX6_readItem_26 rfl rfl ?_
        refine mv_goto 31 dX6_readItem_27 (by decide) ?_
        refine mv_sub (lv' := [(0, .ref (mt_adr (kG K) 56)), (2, .int x2)]) [0, 2] rfl ?_
        exact vX6_readItem_31 hQ (fun s0 x1 x2 => ih s0 x1 x2) σ x2 x2
def fX6_readItem (fu : Nat) (σ : mt_St) : Option (Unit × mt_St) :=
  bX6_readItem_4 fu fu σ (-1 : Int32) (0 : Int32)
set_option maxHeartbeats 4000000 in
set_option maxRecDepth 20000 in
theorem vX6_readItem {K : mt_C} {fu : Nat} {σ : mt_St} {r : Unit} {σf : mt_St} (hQ : mt_R K none none σf) : mt_V K cX6_readItem RX6 3 7 σ 0 [(0, .ref (mt_adr (kG K) 56))] [] (fX6_readItem fu σ = some (r, σf)) := by
  unfold fX6_readItem
  refine mv_iconst (v := -1) dX6_readItem_0 ic_m1 ?_
  refine mv_istore_n (lv' := [(0, .ref (mt_adr (kG K) 56)), (1, .int (-1 : Int32))]) [1, 0] dX6_readItem_1 rfl (by decide) rfl ?_
  refine mv_iconst (v := 0) dX6_readItem_2 ic_0 ?_
  refine mv_istore_n (lv' := [(0, .ref (mt_adr (kG K) 56)), (1, .int (-1 : Int32)), (2, .int (0 : Int32))]) [1, 2, 0] dX6_readItem_3 rfl (by decide) rfl ?_
  exact vX6_readItem_4 hQ fu σ (-1 : Int32) (0 : Int32)
theorem co_X6_readItem {l : Launch} {G : mt_G} {fu : Nat} {σ : mt_St} {r : Unit} {σf : mt_St}  (h : fX6_readItem fu σ = some (r, σf)) : mt_Con l G yX6_readItem cX6_readItem 3 none 7 [.ref (mt_adr G 56)] σ none σf :=
  mt_con (by decide) (Nat.le_of_ble_eq_true rfl) (fun K hl hG hQ => by subst hl; subst hG; exact fun _ => vX6_readItem  hQ h)
theorem dX6_isToldSo_0 : decode cX6_isToldSo 0 = .ok (.aload_n 0, 1) := by decide +kernel
theorem dX6_isToldSo_1 : decode cX6_isToldSo 1 = .ok (.getfield 45, 3) := by decide +kernel
theorem dX6_isToldSo_4 : decode cX6_isToldSo 4 = .ok (.iload_n 1, 1) := by decide +kernel
theorem dX6_isToldSo_5 : decode cX6_isToldSo 5 = .ok (.iconst 1, 1) := by decide +kernel
theorem dX6_isToldSo_6 : decode cX6_isToldSo 6 = .ok (.iadd, 1) := by decide +kernel
theorem dX6_isToldSo_7 : decode cX6_isToldSo 7 = .ok (.iaload, 1) := by decide +kernel
theorem dX6_isToldSo_8 : decode cX6_isToldSo 8 = .ok (.istore_n 2, 1) := by decide +kernel
theorem dX6_isToldSo_9 : decode cX6_isToldSo 9 = .ok (.aload_n 0, 1) := by decide +kernel
theorem dX6_isToldSo_10 : decode cX6_isToldSo 10 = .ok (.getfield 45, 3) := by decide +kernel
theorem dX6_isToldSo_13 : decode cX6_isToldSo 13 = .ok (.iload_n 1, 1) := by decide +kernel
theorem dX6_isToldSo_14 : decode cX6_isToldSo 14 = .ok (.iconst 2, 1) := by decide +kernel
theorem dX6_isToldSo_15 : decode cX6_isToldSo 15 = .ok (.iadd, 1) := by decide +kernel
theorem dX6_isToldSo_16 : decode cX6_isToldSo 16 = .ok (.iaload, 1) := by decide +kernel
theorem dX6_isToldSo_17 : decode cX6_isToldSo 17 = .ok (.istore_n 3, 1) := by decide +kernel
theorem dX6_isToldSo_18 : decode cX6_isToldSo 18 = .ok (.aload_n 0, 1) := by decide +kernel
theorem dX6_isToldSo_19 : decode cX6_isToldSo 19 = .ok (.getfield 45, 3) := by decide +kernel
theorem dX6_isToldSo_22 : decode cX6_isToldSo 22 = .ok (.iload_n 1, 1) := by decide +kernel
theorem dX6_isToldSo_23 : decode cX6_isToldSo 23 = .ok (.iaload, 1) := by decide +kernel
theorem dX6_isToldSo_24 : decode cX6_isToldSo 24 = .ok (.tableswitch 61 10 12 #[28, 38, 48], 28) := by decide +kernel
theorem dX6_isToldSo_52 : decode cX6_isToldSo 52 = .ok (.aload_n 0, 1) := by decide +kernel
theorem dX6_isToldSo_53 : decode cX6_isToldSo 53 = .ok (.getfield 9, 3) := by decide +kernel
theorem dX6_isToldSo_56 : decode cX6_isToldSo 56 = .ok (.iconst 4, 1) := by decide +kernel
theorem dX6_isToldSo_57 : decode cX6_isToldSo 57 = .ok (.iload_n 2, 1) := by decide +kernel
theorem dX6_isToldSo_58 : decode cX6_isToldSo 58 = .ok (.iastore, 1) := by decide +kernel
theorem dX6_isToldSo_59 : decode cX6_isToldSo 59 = .ok (.goto 108, 3) := by decide +kernel
theorem dX6_isToldSo_62 : decode cX6_isToldSo 62 = .ok (.aload_n 0, 1) := by decide +kernel
theorem dX6_isToldSo_63 : decode cX6_isToldSo 63 = .ok (.getfield 9, 3) := by decide +kernel
theorem dX6_isToldSo_66 : decode cX6_isToldSo 66 = .ok (.iconst 5, 1) := by decide +kernel
theorem dX6_isToldSo_67 : decode cX6_isToldSo 67 = .ok (.iload_n 2, 1) := by decide +kernel
theorem dX6_isToldSo_68 : decode cX6_isToldSo 68 = .ok (.iastore, 1) := by decide +kernel
theorem dX6_isToldSo_69 : decode cX6_isToldSo 69 = .ok (.goto 98, 3) := by decide +kernel
theorem dX6_isToldSo_72 : decode cX6_isToldSo 72 = .ok (.aload_n 0, 1) := by decide +kernel
theorem dX6_isToldSo_73 : decode cX6_isToldSo 73 = .ok (.getfield 9, 3) := by decide +kernel
theorem dX6_isToldSo_76 : decode cX6_isToldSo 76 = .ok (.bipush 6, 2) := by decide +kernel
theorem dX6_isToldSo_78 : decode cX6_isToldSo 78 = .ok (.iload_n 2, 1) := by decide +kernel
theorem dX6_isToldSo_79 : decode cX6_isToldSo 79 = .ok (.iadd, 1) := by decide +kernel
theorem dX6_isToldSo_80 : decode cX6_isToldSo 80 = .ok (.iload_n 3, 1) := by decide +kernel
theorem dX6_isToldSo_81 : decode cX6_isToldSo 81 = .ok (.iastore, 1) := by decide +kernel
theorem dX6_isToldSo_82 : decode cX6_isToldSo 82 = .ok (.goto 85, 3) := by decide +kernel
theorem dX6_isToldSo_85 : decode cX6_isToldSo 85 = .ok (.aload_n 0, 1) := by decide +kernel
theorem dX6_isToldSo_86 : decode cX6_isToldSo 86 = .ok (.aload_n 0, 1) := by decide +kernel
theorem dX6_isToldSo_87 : decode cX6_isToldSo 87 = .ok (.getfield 45, 3) := by decide +kernel
theorem dX6_isToldSo_90 : decode cX6_isToldSo 90 = .ok (.iload_n 1, 1) := by decide +kernel
theorem dX6_isToldSo_91 : decode cX6_isToldSo 91 = .ok (.iaload, 1) := by decide +kernel
theorem dX6_isToldSo_92 : decode cX6_isToldSo 92 = .ok (.iload_n 2, 1) := by decide +kernel
theorem dX6_isToldSo_93 : decode cX6_isToldSo 93 = .ok (.iload_n 3, 1) := by decide +kernel
theorem dX6_isToldSo_94 : decode cX6_isToldSo 94 = .ok (.invokevirtual 95, 3) := by decide +kernel
theorem dX6_isToldSo_97 : decode cX6_isToldSo 97 = .ok (.istore 4, 2) := by decide +kernel
theorem dX6_isToldSo_99 : decode cX6_isToldSo 99 = .ok (.aload_n 0, 1) := by decide +kernel
theorem dX6_isToldSo_100 : decode cX6_isToldSo 100 = .ok (.getfield 45, 3) := by decide +kernel
theorem dX6_isToldSo_103 : decode cX6_isToldSo 103 = .ok (.iload_n 1, 1) := by decide +kernel
theorem dX6_isToldSo_104 : decode cX6_isToldSo 104 = .ok (.iconst 3, 1) := by decide +kernel
theorem dX6_isToldSo_105 : decode cX6_isToldSo 105 = .ok (.iadd, 1) := by decide +kernel
theorem dX6_isToldSo_106 : decode cX6_isToldSo 106 = .ok (.iaload, 1) := by decide +kernel
theorem dX6_isToldSo_107 : decode cX6_isToldSo 107 = .ok (.ifCond .lt 22, 3) := by decide +kernel
theorem dX6_isToldSo_110 : decode cX6_isToldSo 110 = .ok (.aload_n 0, 1) := by decide +kernel
theorem dX6_isToldSo_111 : decode cX6_isToldSo 111 = .ok (.getfield 9, 3) := by decide +kernel
theorem dX6_isToldSo_114 : decode cX6_isToldSo 114 = .ok (.iload 4, 2) := by decide +kernel
theorem dX6_isToldSo_116 : decode cX6_isToldSo 116 = .ok (.iconst 3, 1) := by decide +kernel
theorem dX6_isToldSo_117 : decode cX6_isToldSo 117 = .ok (.invokestatic 85, 3) := by decide +kernel
theorem dX6_isToldSo_120 : decode cX6_isToldSo 120 = .ok (.aload_n 0, 1) := by decide +kernel
theorem dX6_isToldSo_121 : decode cX6_isToldSo 121 = .ok (.getfield 45, 3) := by decide +kernel
theorem dX6_isToldSo_124 : decode cX6_isToldSo 124 = .ok (.iload_n 1, 1) := by decide +kernel
theorem dX6_isToldSo_125 : decode cX6_isToldSo 125 = .ok (.iconst 3, 1) := by decide +kernel
theorem dX6_isToldSo_126 : decode cX6_isToldSo 126 = .ok (.iadd, 1) := by decide +kernel
theorem dX6_isToldSo_127 : decode cX6_isToldSo 127 = .ok (.iaload, 1) := by decide +kernel
theorem dX6_isToldSo_128 : decode cX6_isToldSo 128 = .ok (.iastore, 1) := by decide +kernel
theorem dX6_isToldSo_129 : decode cX6_isToldSo 129 = .ok (.aload_n 0, 1) := by decide +kernel
theorem dX6_isToldSo_130 : decode cX6_isToldSo 130 = .ok (.getfield 9, 3) := by decide +kernel
theorem dX6_isToldSo_133 : decode cX6_isToldSo 133 = .ok (.iload 4, 2) := by decide +kernel
theorem dX6_isToldSo_135 : decode cX6_isToldSo 135 = .ok (.iconst 5, 1) := by decide +kernel
theorem dX6_isToldSo_136 : decode cX6_isToldSo 136 = .ok (.invokestatic 85, 3) := by decide +kernel
theorem dX6_isToldSo_139 : decode cX6_isToldSo 139 = .ok (.aload_n 0, 1) := by decide +kernel
theorem dX6_isToldSo_140 : decode cX6_isToldSo 140 = .ok (.getfield 45, 3) := by decide +kernel
theorem dX6_isToldSo_143 : decode cX6_isToldSo 143 = .ok (.iload_n 1, 1) := by decide +kernel
theorem dX6_isToldSo_144 : decode cX6_isToldSo 144 = .ok (.iconst 4, 1) := by decide +kernel
theorem dX6_isToldSo_145 : decode cX6_isToldSo 145 = .ok (.iadd, 1) := by decide +kernel
theorem dX6_isToldSo_146 : decode cX6_isToldSo 146 = .ok (.iaload, 1) := by decide +kernel
theorem dX6_isToldSo_147 : decode cX6_isToldSo 147 = .ok (.iastore, 1) := by decide +kernel
theorem dX6_isToldSo_148 : decode cX6_isToldSo 148 = .ok (.aload_n 0, 1) := by decide +kernel
theorem dX6_isToldSo_149 : decode cX6_isToldSo 149 = .ok (.getfield 9, 3) := by decide +kernel
theorem dX6_isToldSo_152 : decode cX6_isToldSo 152 = .ok (.iload 4, 2) := by decide +kernel
theorem dX6_isToldSo_154 : decode cX6_isToldSo 154 = .ok (.iconst 4, 1) := by decide +kernel
theorem dX6_isToldSo_155 : decode cX6_isToldSo 155 = .ok (.invokestatic 85, 3) := by decide +kernel
theorem dX6_isToldSo_158 : decode cX6_isToldSo 158 = .ok (.aload_n 0, 1) := by decide +kernel
theorem dX6_isToldSo_159 : decode cX6_isToldSo 159 = .ok (.getfield 45, 3) := by decide +kernel
theorem dX6_isToldSo_162 : decode cX6_isToldSo 162 = .ok (.iload_n 1, 1) := by decide +kernel
theorem dX6_isToldSo_163 : decode cX6_isToldSo 163 = .ok (.iconst 5, 1) := by decide +kernel
theorem dX6_isToldSo_164 : decode cX6_isToldSo 164 = .ok (.iadd, 1) := by decide +kernel
theorem dX6_isToldSo_165 : decode cX6_isToldSo 165 = .ok (.iaload, 1) := by decide +kernel
theorem dX6_isToldSo_166 : decode cX6_isToldSo 166 = .ok (.iastore, 1) := by decide +kernel
theorem dX6_isToldSo_167 : decode cX6_isToldSo 167 = .ok (.return_, 1) := by decide +kernel
def bX6_isToldSo_167 (fu : Nat) (σ : mt_St) : Option (Unit × mt_St) :=
  some ((), σ)
set_option maxHeartbeats 4000000 in
set_option maxRecDepth 20000 in
theorem vX6_isToldSo_167 {K : mt_C} {fu : Nat} {r : Unit} {σf : mt_St} (hQ : mt_R K none none σf) : ∀ (σ : mt_St), mt_V K cX6_isToldSo RX6 5 2 σ 167 [] [] (bX6_isToldSo_167 fu σ = some (r, σf)) := by
  intro σ
  unfold bX6_isToldSo_167
  exact mv_vret hQ dX6_isToldSo_167
def bX6_isToldSo_129 (fu : Nat) (σ : mt_St) (x1 : Int32) (x4 : Int32) : Option (Unit × mt_St) :=
  mt_ask (fX6_treatyAt fu x4 (5 : Int32)) fun r1 =>
  mt_chk (mt_in (x1 + (4 : Int32)) 720) <|
  mt_chk (mt_in r1 86) <|
  mt_bnd (mt_up σ 57 (Int32.toNatClampNeg r1) (σ 63 (Int32.toNatClampNeg (x1 + (4 : Int32))))) fun s2 =>
  mt_ask (fX6_treatyAt fu x4 (4 : Int32)) fun r3 =>
  mt_chk (mt_in (x1 + (5 : Int32)) 720) <|
  mt_chk (mt_in r3 86) <|
  mt_bnd (mt_up s2 57 (Int32.toNatClampNeg r3) (s2 63 (Int32.toNatClampNeg (x1 + (5 : Int32))))) fun s4 =>
  bX6_isToldSo_167 fu s4
set_option maxHeartbeats 4000000 in
set_option maxRecDepth 20000 in
theorem vX6_isToldSo_129 {K : mt_C} {fu : Nat} {r : Unit} {σf : mt_St} (hQ : mt_R K none none σf) : ∀ (σ : mt_St) (x1 : Int32) (x4 : Int32), mt_V K cX6_isToldSo RX6 5 2 σ 129 [(0, .ref (mt_adr (kG K) 56)), (1, .int x1), (4, .int x4)] [] (bX6_isToldSo_129 fu σ x1 x4 = some (r, σf)) := by
  intro σ x1 x4
  unfold bX6_isToldSo_129
  refine mv_aload_n 0 dX6_isToldSo_129 rfl rfl ?_
  refine mg_X6_0 fl_X6_9 dX6_isToldSo_130 ?_
  refine mv_iload 2 dX6_isToldSo_133 rfl ?_
  refine mv_iconst (v := 5) dX6_isToldSo_135 ic_5 ?_
  refine mv_cSri (As := [.int x4, .int (5 : Int32)]) (st := [.ref (mt_adr (kG K) 57)]) cal_X6_treatyAt sta_X6_treatyAt ml_X6_85 rfl (by decide) rfl (Nat.le_of_ble_eq_true rfl) dX6_isToldSo_136 (fun r h => co_X6_treatyAt h) (fun r1 => ?_)
  refine mv_aload_n 0 dX6_isToldSo_139 rfl rfl ?_
  refine mg_X6_14 fl_X6_45 dX6_isToldSo_140 ?_
  refine mv_iload_n 1 dX6_isToldSo_143 rfl rfl ?_
  refine mv_iconst (v := 4) dX6_isToldSo_144 ic_4 ?_
  refine mv_iadd dX6_isToldSo_145 ?_
  refine mv_iald 720 rfl rfl dX6_isToldSo_146 ?_
  refine mv_iast 86 rfl rfl dX6_isToldSo_147 (fun s2 => ?_)
  refine mv_aload_n 0 dX6_isToldSo_148 rfl rfl ?_
  refine mg_X6_0 fl_X6_9 dX6_isToldSo_149 ?_
  refine mv_iload 2 dX6_isToldSo_152 rfl ?_
  refine mv_iconst (v := 4) dX6_isToldSo_154 ic_4 ?_
  refine mv_cSri (As := [.int x4, .int (4 : Int32)]) (st := [.ref (mt_adr (kG K) 57)]) cal_X6_treatyAt sta_X6_treatyAt ml_X6_85 rfl (by decide) rfl (Nat.le_of_ble_eq_true rfl) dX6_isToldSo_155 (fun r h => co_X6_treatyAt h) (fun r3 => ?_)
  refine mv_aload_n 0 dX6_isToldSo_158 rfl rfl ?_
  refine mg_X6_14 fl_X6_45 dX6_isToldSo_159 ?_
  refine mv_iload_n 1 dX6_isToldSo_162 rfl rfl ?_
  refine mv_iconst (v := 5) dX6_isToldSo_163 ic_5 ?_
  refine mv_iadd dX6_isToldSo_164 ?_
  refine mv_iald 720 rfl rfl dX6_isToldSo_165 ?_
  refine mv_iast 86 rfl rfl dX6_isToldSo_166 (fun s4 => ?_)
  refine mv_sub (lv' := []) [] rfl ?_
  exact vX6_isToldSo_167 hQ s4
def fX6_isToldSo (fu : Nat) (σ : mt_St) (a1 : Int32) : Option (Unit × mt_St) :=
  mt_chk (mt_in (a1 + (1 : Int32)) 720) <|
  mt_chk (mt_in (a1 + (2 : Int32)) 720) <|
  mt_chk (mt_in a1 720) <|
  if (σ 63 (Int32.toNatClampNeg a1)) = 10 then
    mt_bnd (mt_up σ 57 4 (σ 63 (Int32.toNatClampNeg (a1 + (1 : Int32))))) fun s1 =>
    bX6_isToldSo_167 fu s1
  else
  if (σ 63 (Int32.toNatClampNeg a1)) = 11 then
    mt_bnd (mt_up σ 57 5 (σ 63 (Int32.toNatClampNeg (a1 + (1 : Int32))))) fun s2 =>
    bX6_isToldSo_167 fu s2
  else
  if (σ 63 (Int32.toNatClampNeg a1)) = 12 then
    mt_chk (mt_in ((6 : Int32) + (σ 63 (Int32.toNatClampNeg (a1 + (1 : Int32))))) 86) <|
    mt_bnd (mt_up σ 57 (Int32.toNatClampNeg ((6 : Int32) + (σ 63 (Int32.toNatClampNeg (a1 + (1 : Int32)))))) (σ 63 (Int32.toNatClampNeg (a1 + (2 : Int32))))) fun s3 =>
    bX6_isToldSo_167 fu s3
  else
  mt_chk (mt_in a1 720) <|
  mt_call (fX6_comes fu σ (σ 63 (Int32.toNatClampNeg a1)) (σ 63 (Int32.toNatClampNeg (a1 + (1 : Int32)))) (σ 63 (Int32.toNatClampNeg (a1 + (2 : Int32))))) fun r4 s5 =>
  mt_chk (mt_in (a1 + (3 : Int32)) 720) <|
  if (s5 63 (Int32.toNatClampNeg (a1 + (3 : Int32)))) < 0 then
    bX6_isToldSo_129 fu s5 a1 r4
  else
    mt_ask (fX6_treatyAt fu r4 (3 : Int32)) fun r6 =>
    mt_chk (mt_in (a1 + (3 : Int32)) 720) <|
    mt_chk (mt_in r6 86) <|
    mt_bnd (mt_up s5 57 (Int32.toNatClampNeg r6) (s5 63 (Int32.toNatClampNeg (a1 + (3 : Int32))))) fun s7 =>
    bX6_isToldSo_129 fu s7 a1 r4
set_option maxHeartbeats 4000000 in
set_option maxRecDepth 20000 in
theorem vX6_isToldSo {K : mt_C} {fu : Nat} {σ : mt_St} {a1 : Int32} {r : Unit} {σf : mt_St} (hQ : mt_R K none none σf) : mt_V K cX6_isToldSo RX6 5 2 σ 0 [(0, .ref (mt_adr (kG K) 56)), (1, .int a1)] [] (fX6_isToldSo fu σ a1 = some (r, σf)) := by
  unfold fX6_isToldSo
  refine mv_aload_n 0 dX6_isToldSo_0 rfl rfl ?_
  refine mg_X6_14 fl_X6_45 dX6_isToldSo_1 ?_
  refine mv_iload_n 1 dX6_isToldSo_4 rfl rfl ?_
  refine mv_iconst (v := 1) dX6_isToldSo_5 ic_1 ?_
  refine mv_iadd dX6_isToldSo_6 ?_
  refine mv_iald 720 rfl rfl dX6_isToldSo_7 ?_
  refine mv_istore_n (lv' := [(0, .ref (mt_adr (kG K) 56)), (1, .int a1), (2, .int (σ 63 (Int32.toNatClampNeg (a1 + (1 : Int32)))))]) [1, 2, 0] dX6_isToldSo_8 rfl (by decide) rfl ?_
  refine mv_aload_n 0 dX6_isToldSo_9 rfl rfl ?_
  refine mg_X6_14 fl_X6_45 dX6_isToldSo_10 ?_
  refine mv_iload_n 1 dX6_isToldSo_13 rfl rfl ?_
  refine mv_iconst (v := 2) dX6_isToldSo_14 ic_2 ?_
  refine mv_iadd dX6_isToldSo_15 ?_
  refine mv_iald 720 rfl rfl dX6_isToldSo_16 ?_
  refine mv_istore_n (lv' := [(0, .ref (mt_adr (kG K) 56)), (1, .int a1), (2, .int (σ 63 (Int32.toNatClampNeg (a1 + (1 : Int32))))), (3, .int (σ 63 (Int32.toNatClampNeg (a1 + (2 : Int32)))))]) [1, 2, 3, 0] dX6_isToldSo_17 rfl (by decide) rfl ?_
  refine mv_aload_n 0 dX6_isToldSo_18 rfl rfl ?_
  refine mg_X6_14 fl_X6_45 dX6_isToldSo_19 ?_
  refine mv_iload_n 1 dX6_isToldSo_22 rfl rfl ?_
  refine mv_iald 720 rfl rfl dX6_isToldSo_23 ?_
  refine mv_case (fun e10 => ?_) (fun n10 => ?_)
  · refine mv_tsin 10 52 e10 dX6_isToldSo_24 (by decide) (by decide) rfl (by decide) ?_
    refine mv_aload_n 0 dX6_isToldSo_52 rfl rfl ?_
    refine mg_X6_0 fl_X6_9 dX6_isToldSo_53 ?_
    refine mv_iconst (v := 4) dX6_isToldSo_56 ic_4 ?_
    refine mv_iload_n 2 dX6_isToldSo_57 rfl rfl ?_
    refine mv_iastk 86 4 rfl rfl (by decide) (by decide) dX6_isToldSo_58 (fun s1 => ?_)
    refine mv_goto 167 dX6_isToldSo_59 (by decide) ?_
    refine mv_sub (lv' := []) [] rfl ?_
    exact vX6_isToldSo_167 hQ s1
  refine mv_case (fun e11 => ?_) (fun n11 => ?_)
  · refine mv_tsin 11 62 e11 dX6_isToldSo_24 (by decide) (by decide) rfl (by decide) ?_
    refine mv_aload_n 0 dX6_isToldSo_62 rfl rfl ?_
    refine mg_X6_0 fl_X6_9 dX6_isToldSo_63 ?_
    refine mv_iconst (v := 5) dX6_isToldSo_66 ic_5 ?_
    refine mv_iload_n 2 dX6_isToldSo_67 rfl rfl ?_
    refine mv_iastk 86 5 rfl rfl (by decide) (by decide) dX6_isToldSo_68 (fun s2 => ?_)
    refine mv_goto 167 dX6_isToldSo_69 (by decide) ?_
    refine mv_sub (lv' := []) [] rfl ?_
    exact vX6_isToldSo_167 hQ s2
  refine mv_case (fun e12 => ?_) (fun n12 => ?_)
  · refine mv_tsin 12 72 e12 dX6_isToldSo_24 (by decide) (by decide) rfl (by decide) ?_
    refine mv_aload_n 0 dX6_isToldSo_72 rfl rfl ?_
    refine mg_X6_0 fl_X6_9 dX6_isToldSo_73 ?_
    refine mv_bipush (v := 6) dX6_isToldSo_76 bp_6 ?_
    refine mv_iload_n 2 dX6_isToldSo_78 rfl rfl ?_
    refine mv_iadd dX6_isToldSo_79 ?_
    refine mv_iload_n 3 dX6_isToldSo_80 rfl rfl ?_
    refine mv_iast 86 rfl rfl dX6_isToldSo_81 (fun s3 => ?_)
    refine mv_goto 167 dX6_isToldSo_82 (by decide) ?_
    refine mv_sub (lv' := []) [] rfl ?_
    exact vX6_isToldSo_167 hQ s3
  refine mv_tsout 85 (by have z10 := mt_ne (z := 10) n10 (by decide); have z11 := mt_ne (z := 11) n11 (by decide); have z12 := mt_ne (z := 12) n12 (by decide); omega) dX6_isToldSo_24 (by decide) ?_
  refine mv_aload_n 0 dX6_isToldSo_85 rfl rfl ?_
  refine mv_aload_n 0 dX6_isToldSo_86 rfl rfl ?_
  refine mg_X6_14 fl_X6_45 dX6_isToldSo_87 ?_
  refine mv_iload_n 1 dX6_isToldSo_90 rfl rfl ?_
  refine mv_iald 720 rfl rfl dX6_isToldSo_91 ?_
  refine mv_iload_n 2 dX6_isToldSo_92 rfl rfl ?_
  refine mv_iload_n 3 dX6_isToldSo_93 rfl rfl ?_
  refine mv_cVwi (As := [.int (σ 63 (Int32.toNatClampNeg a1)), .int (σ 63 (Int32.toNatClampNeg (a1 + (1 : Int32)))), .int (σ 63 (Int32.toNatClampNeg (a1 + (2 : Int32))))]) (st := []) cal_X6_comes ins_X6_comes ml_X6_95 rfl (by decide) rfl rfl (by decide) rfl (Nat.le_of_ble_eq_true rfl) dX6_isToldSo_94 (fun r s h => co_X6_comes h) (fun r4 s5 => ?_)
  refine mv_istore (lv' := [(0, .ref (mt_adr (kG K) 56)), (1, .int a1), (4, .int r4)]) [1, 2, 0] dX6_isToldSo_97 (by decide) rfl ?_
  refine mv_aload_n 0 dX6_isToldSo_99 rfl rfl ?_
  refine mg_X6_14 fl_X6_45 dX6_isToldSo_100 ?_
  refine mv_iload_n 1 dX6_isToldSo_103 rfl rfl ?_
  refine mv_iconst (v := 3) dX6_isToldSo_104 ic_3 ?_
  refine mv_iadd dX6_isToldSo_105 ?_
  refine mv_iald 720 rfl rfl dX6_isToldSo_106 ?_
  refine mv_if_lt 129 dX6_isToldSo_107 (by decide) ?_ ?_
  · exact vX6_isToldSo_129 hQ s5 a1 r4
  · refine mv_aload_n 0 dX6_isToldSo_110 rfl rfl ?_
    refine mg_X6_0 fl_X6_9 dX6_isToldSo_111 ?_
    refine mv_iload 2 dX6_isToldSo_114 rfl ?_
    refine mv_iconst (v := 3) dX6_isToldSo_116 ic_3 ?_
    refine mv_cSri (As := [.int r4, .int (3 : Int32)]) (st := [.ref (mt_adr (kG K) 57)]) cal_X6_treatyAt sta_X6_treatyAt ml_X6_85 rfl (by decide) rfl (Nat.le_of_ble_eq_true rfl) dX6_isToldSo_117 (fun r h => co_X6_treatyAt h) (fun r6 => ?_)
    refine mv_aload_n 0 dX6_isToldSo_120 rfl rfl ?_
    refine mg_X6_14 fl_X6_45 dX6_isToldSo_121 ?_
    refine mv_iload_n 1 dX6_isToldSo_124 rfl rfl ?_
    refine mv_iconst (v := 3) dX6_isToldSo_125 ic_3 ?_
    refine mv_iadd dX6_isToldSo_126 ?_
    refine mv_iald 720 rfl rfl dX6_isToldSo_127 ?_
    refine mv_iast 86 rfl rfl dX6_isToldSo_128 (fun s7 => ?_)
    exact vX6_isToldSo_129 hQ s7 a1 r4
theorem co_X6_isToldSo {l : Launch} {G : mt_G} {fu : Nat} {σ : mt_St} {a1 : Int32} {r : Unit} {σf : mt_St}  (h : fX6_isToldSo fu σ a1 = some (r, σf)) : mt_Con l G yX6_isToldSo cX6_isToldSo 5 none 2 [.ref (mt_adr G 56), .int a1] σ none σf :=
  mt_con (by decide) (Nat.le_of_ble_eq_true rfl) (fun K hl hG hQ => by subst hl; subst hG; exact fun _ => vX6_isToldSo  hQ h)
theorem dX6_text_0 : decode cX6_text 0 = .ok (.aload_n 0, 1) := by decide +kernel
theorem dX6_text_1 : decode cX6_text 1 = .ok (.iconst 0, 1) := by decide +kernel
theorem dX6_text_2 : decode cX6_text 2 = .ok (.putfield 225, 3) := by decide +kernel
theorem dX6_text_5 : decode cX6_text 5 = .ok (.aload_n 0, 1) := by decide +kernel
theorem dX6_text_6 : decode cX6_text 6 = .ok (.iconst 0, 1) := by decide +kernel
theorem dX6_text_7 : decode cX6_text 7 = .ok (.putfield 247, 3) := by decide +kernel
theorem dX6_text_10 : decode cX6_text 10 = .ok (.aload_n 0, 1) := by decide +kernel
theorem dX6_text_11 : decode cX6_text 11 = .ok (.iconst 0, 1) := by decide +kernel
theorem dX6_text_12 : decode cX6_text 12 = .ok (.putfield 258, 3) := by decide +kernel
theorem dX6_text_15 : decode cX6_text 15 = .ok (.aload_n 0, 1) := by decide +kernel
theorem dX6_text_16 : decode cX6_text 16 = .ok (.aload_n 0, 1) := by decide +kernel
theorem dX6_text_17 : decode cX6_text 17 = .ok (.getfield 9, 3) := by decide +kernel
theorem dX6_text_20 : decode cX6_text 20 = .ok (.iconst 1, 1) := by decide +kernel
theorem dX6_text_21 : decode cX6_text 21 = .ok (.iaload, 1) := by decide +kernel
theorem dX6_text_22 : decode cX6_text 22 = .ok (.putfield 265, 3) := by decide +kernel
theorem dX6_text_25 : decode cX6_text 25 = .ok (.aload_n 0, 1) := by decide +kernel
theorem dX6_text_26 : decode cX6_text 26 = .ok (.invokevirtual 251, 3) := by decide +kernel
theorem dX6_text_29 : decode cX6_text 29 = .ok (.aload_n 0, 1) := by decide +kernel
theorem dX6_text_30 : decode cX6_text 30 = .ok (.invokevirtual 296, 3) := by decide +kernel
theorem dX6_text_33 : decode cX6_text 33 = .ok (.aload_n 0, 1) := by decide +kernel
theorem dX6_text_34 : decode cX6_text 34 = .ok (.getfield 247, 3) := by decide +kernel
theorem dX6_text_37 : decode cX6_text 37 = .ok (.ifCond .ne 37, 3) := by decide +kernel
theorem dX6_text_40 : decode cX6_text 40 = .ok (.aload_n 0, 1) := by decide +kernel
theorem dX6_text_41 : decode cX6_text 41 = .ok (.getfield 237, 3) := by decide +kernel
theorem dX6_text_44 : decode cX6_text 44 = .ok (.iconst 3, 1) := by decide +kernel
theorem dX6_text_45 : decode cX6_text 45 = .ok (.if_icmp .ne 29, 3) := by decide +kernel
theorem dX6_text_48 : decode cX6_text 48 = .ok (.aload_n 0, 1) := by decide +kernel
theorem dX6_text_49 : decode cX6_text 49 = .ok (.getfield 22, 3) := by decide +kernel
theorem dX6_text_52 : decode cX6_text 52 = .ok (.aload_n 0, 1) := by decide +kernel
theorem dX6_text_53 : decode cX6_text 53 = .ok (.getfield 228, 3) := by decide +kernel
theorem dX6_text_56 : decode cX6_text 56 = .ok (.iaload, 1) := by decide +kernel
theorem dX6_text_57 : decode cX6_text 57 = .ok (.bipush 59, 2) := by decide +kernel
theorem dX6_text_59 : decode cX6_text 59 = .ok (.if_icmp .ne 15, 3) := by decide +kernel
theorem dX6_text_62 : decode cX6_text 62 = .ok (.aload_n 0, 1) := by decide +kernel
theorem dX6_text_63 : decode cX6_text 63 = .ok (.iconst 1, 1) := by decide +kernel
theorem dX6_text_64 : decode cX6_text 64 = .ok (.invokevirtual 254, 3) := by decide +kernel
theorem dX6_text_67 : decode cX6_text 67 = .ok (.aload_n 0, 1) := by decide +kernel
theorem dX6_text_68 : decode cX6_text 68 = .ok (.invokevirtual 296, 3) := by decide +kernel
theorem dX6_text_71 : decode cX6_text 71 = .ok (.goto (-38), 3) := by decide +kernel
theorem dX6_text_74 : decode cX6_text 74 = .ok (.aload_n 0, 1) := by decide +kernel
theorem dX6_text_75 : decode cX6_text 75 = .ok (.aload_n 0, 1) := by decide +kernel
theorem dX6_text_76 : decode cX6_text 76 = .ok (.getfield 237, 3) := by decide +kernel
theorem dX6_text_79 : decode cX6_text 79 = .ok (.ifCond .ne 7, 3) := by decide +kernel
theorem dX6_text_82 : decode cX6_text 82 = .ok (.iconst 1, 1) := by decide +kernel
theorem dX6_text_83 : decode cX6_text 83 = .ok (.goto 4, 3) := by decide +kernel
theorem dX6_text_86 : decode cX6_text 86 = .ok (.iconst 0, 1) := by decide +kernel
theorem dX6_text_87 : decode cX6_text 87 = .ok (.invokevirtual 254, 3) := by decide +kernel
theorem dX6_text_90 : decode cX6_text 90 = .ok (.aload_n 0, 1) := by decide +kernel
theorem dX6_text_91 : decode cX6_text 91 = .ok (.iconst 0, 1) := by decide +kernel
theorem dX6_text_92 : decode cX6_text 92 = .ok (.putfield 222, 3) := by decide +kernel
theorem dX6_text_95 : decode cX6_text 95 = .ok (.aload_n 0, 1) := by decide +kernel
theorem dX6_text_96 : decode cX6_text 96 = .ok (.getfield 247, 3) := by decide +kernel
theorem dX6_text_99 : decode cX6_text 99 = .ok (.ifCond .eq 10, 3) := by decide +kernel
theorem dX6_text_102 : decode cX6_text 102 = .ok (.iconst (-1), 1) := by decide +kernel
theorem dX6_text_103 : decode cX6_text 103 = .ok (.aload_n 0, 1) := by decide +kernel
theorem dX6_text_104 : decode cX6_text 104 = .ok (.getfield 228, 3) := by decide +kernel
theorem dX6_text_107 : decode cX6_text 107 = .ok (.isub, 1) := by decide +kernel
theorem dX6_text_108 : decode cX6_text 108 = .ok (.ireturn, 1) := by decide +kernel
theorem dX6_text_109 : decode cX6_text 109 = .ok (.iconst 0, 1) := by decide +kernel
theorem dX6_text_110 : decode cX6_text 110 = .ok (.istore_n 1, 1) := by decide +kernel
theorem dX6_text_111 : decode cX6_text 111 = .ok (.iload_n 1, 1) := by decide +kernel
theorem dX6_text_112 : decode cX6_text 112 = .ok (.aload_n 0, 1) := by decide +kernel
theorem dX6_text_113 : decode cX6_text 113 = .ok (.getfield 258, 3) := by decide +kernel
theorem dX6_text_116 : decode cX6_text 116 = .ok (.if_icmp .ge 17, 3) := by decide +kernel
theorem dX6_text_119 : decode cX6_text 119 = .ok (.aload_n 0, 1) := by decide +kernel
theorem dX6_text_120 : decode cX6_text 120 = .ok (.bipush 6, 2) := by decide +kernel
theorem dX6_text_122 : decode cX6_text 122 = .ok (.iload_n 1, 1) := by decide +kernel
theorem dX6_text_123 : decode cX6_text 123 = .ok (.imul, 1) := by decide +kernel
theorem dX6_text_124 : decode cX6_text 124 = .ok (.invokevirtual 299, 3) := by decide +kernel
theorem dX6_text_127 : decode cX6_text 127 = .ok (.iinc 1 1, 3) := by decide +kernel
theorem dX6_text_130 : decode cX6_text 130 = .ok (.goto (-19), 3) := by decide +kernel
theorem dX6_text_133 : decode cX6_text 133 = .ok (.aload_n 0, 1) := by decide +kernel
theorem dX6_text_134 : decode cX6_text 134 = .ok (.getfield 258, 3) := by decide +kernel
theorem dX6_text_137 : decode cX6_text 137 = .ok (.ireturn, 1) := by decide +kernel
def bX6_text_111 (fu : Nat) : Nat → mt_St → Int32 → Option (Int32 × mt_St)
  | 0, _, _ => none
  | n + 1, σ, x1 =>
    if (σ 56 15) ≤ x1 then
      some ((σ 56 15), σ)
    else
      mt_call (fX6_isToldSo fu σ ((6 : Int32) * x1)) fun _ s2 =>
      bX6_text_111 fu n s2 (x1 + 1)
set_option maxHeartbeats 4000000 in
set_option maxRecDepth 20000 in
theorem vX6_text_111 {K : mt_C} {fu : Nat} {r : Int32} {σf : mt_St} (hQ : mt_R K (some .int) (some (.int r)) σf) : ∀ (n : Nat) (σ : mt_St) (x1 : Int32), mt_V K cX6_text RX6 2 8 σ 111 [(0, .ref (mt_adr (kG K) 56)), (1, .int x1)] [] (bX6_text_111 fu n σ x1 = some (r, σf)) := by
  intro n
  induction n with
  | zero => intro σ x1; intro hP; unfold bX6_text_111 at hP; cases hP
  | succ n ih =>
    intro σ x1
    unfold bX6_text_111
    refine mv_iload_n 1 dX6_text_111 rfl rfl ?_
    refine mv_aload_n 0 dX6_text_112 rfl rfl ?_
    refine mg_X6_15 fl_X6_258 dX6_text_113 ?_
    refine mv_icmp_ge 133 dX6_text_116 (by decide) ?_ ?_
    · refine mv_aload_n 0 dX6_text_133 rfl rfl ?_
      refine mg_X6_15 fl_X6_258 dX6_text_134 ?_
      exact mv_iret hQ dX6_text_137
    · refine mv_aload_n 0 dX6_text_119 rfl rfl ?_
      refine mv_bipush (v := 6) dX6_text_120 bp_6 ?_
      refine mv_iload_n 1 dX6_text_122 rfl rfl ?_
      refine mv_imul dX6_text_123 ?_
      refine mv_cVwv (As := [.int ((6 : Int32) * x1)]) (st := []) cal_X6_isToldSo ins_X6_isToldSo ml_X6_299 rfl (by decide) rfl rfl (by decide) rfl (Nat.le_of_ble_eq_true rfl) dX6_text_124 (fun r s h => co_X6_isToldSo h) (fun r1 s2 => ?_)
      refine mv_iinc (k0 := 1) (v := x1 + 1) (lv' := [(0, .ref (mt_adr (kG K) 56)), (1, .int (x1 + 1))]) [1, 0] dX6_text_127 rfl (mt_inc ic_1) (by decide) rfl ?_
      refine mv_goto 111 dX6_text_130 (by decide) ?_
      exact ih s2 (x1 + 1)
def bX6_text_87 (fu : Nat) (σ : mt_St) (y0 : Int32) : Option (Int32 × mt_St) :=
  mt_call (fX6_must fu σ y0) fun _ s2 =>
  mt_bnd (mt_up s2 56 7 (0 : Int32)) fun s3 =>
  if (s3 56 12) = 0 then
    bX6_text_111 fu fu s3 (0 : Int32)
  else
    some (((-1 : Int32) - (s3 56 8)), s3)
set_option maxHeartbeats 4000000 in
set_option maxRecDepth 20000 in
theorem vX6_text_87 {K : mt_C} {fu : Nat} {r : Int32} {σf : mt_St} (hQ : mt_R K (some .int) (some (.int r)) σf) : ∀ (σ : mt_St) (y0 : Int32), mt_V K cX6_text RX6 2 8 σ 87 [(0, .ref (mt_adr (kG K) 56))] [.int y0, .ref (mt_adr (kG K) 56)] (bX6_text_87 fu σ y0 = some (r, σf)) := by
  intro σ y0
  unfold bX6_text_87
  refine mv_cVwv (As := [.int y0]) (st := []) cal_X6_must ins_X6_must ml_X6_254 rfl (by decide) rfl rfl (by decide) rfl (Nat.le_of_ble_eq_true rfl) dX6_text_87 (fun r s h => co_X6_must h) (fun r1 s2 => ?_)
  refine mv_aload_n 0 dX6_text_90 rfl rfl ?_
  refine mv_iconst (v := 0) dX6_text_91 ic_0 ?_
  refine mp_X6_7 fl_X6_222 dX6_text_92 (fun s3 => ?_)
  refine mv_aload_n 0 dX6_text_95 rfl rfl ?_
  refine mg_X6_12 fl_X6_247 dX6_text_96 ?_
  refine mv_if_eq 109 dX6_text_99 (by decide) ?_ ?_
  · refine mv_iconst (v := 0) dX6_text_109 ic_0 ?_
    refine mv_istore_n (lv' := [(0, .ref (mt_adr (kG K) 56)), (1, .int (0 : Int32))]) [1, 0] dX6_text_110 rfl (by decide) rfl ?_
    exact vX6_text_111 hQ fu s3 (0 : Int32)
  · refine mv_iconst (v := -1) dX6_text_102 ic_m1 ?_
    refine mv_aload_n 0 dX6_text_103 rfl rfl ?_
    refine mg_X6_8 fl_X6_228 dX6_text_104 ?_
    refine mv_isub dX6_text_107 ?_
    exact mv_iret hQ dX6_text_108
def bX6_text_74 (fu : Nat) (σ : mt_St) : Option (Int32 × mt_St) :=
  if (σ 56 10) = 0 then
    bX6_text_87 fu σ (1 : Int32)
  else
    bX6_text_87 fu σ (0 : Int32)
set_option maxHeartbeats 4000000 in
set_option maxRecDepth 20000 in
theorem vX6_text_74 {K : mt_C} {fu : Nat} {r : Int32} {σf : mt_St} (hQ : mt_R K (some .int) (some (.int r)) σf) : ∀ (σ : mt_St), mt_V K cX6_text RX6 2 8 σ 74 [(0, .ref (mt_adr (kG K) 56))] [] (bX6_text_74 fu σ = some (r, σf)) := by
  intro σ
  unfold bX6_text_74
  refine mv_aload_n 0 dX6_text_74 rfl rfl ?_
  refine mv_aload_n 0 dX6_text_75 rfl rfl ?_
  refine mg_X6_10 fl_X6_237 dX6_text_76 ?_
  refine mv_if_ne 86 dX6_text_79 (by decide) ?_ ?_
  · refine mv_iconst (v := 0) dX6_text_86 ic_0 ?_
    exact vX6_text_87 hQ σ (0 : Int32)
  · refine mv_iconst (v := 1) dX6_text_82 ic_1 ?_
    refine mv_goto 87 dX6_text_83 (by decide) ?_
    exact vX6_text_87 hQ σ (1 : Int32)
def bX6_text_33 (fu : Nat) : Nat → mt_St → Option (Int32 × mt_St)
  | 0, _ => none
  | n + 1, σ =>
    if (σ 56 12) = 0 then
      if (σ 56 10) = (3 : Int32) then
        mt_chk (mt_in (σ 56 8) 120) <|
        if (σ 61 (Int32.toNatClampNeg (σ 56 8))) = (59 : Int32) then
          mt_call (fX6_must fu σ (1 : Int32)) fun _ s2 =>
          mt_call (fX6_readItem fu s2) fun _ s4 =>
          bX6_text_33 fu n s4
        else
          bX6_text_74 fu σ
      else
        bX6_text_74 fu σ
    else
      bX6_text_74 fu σ
set_option maxHeartbeats 4000000 in
set_option maxRecDepth 20000 in
theorem vX6_text_33 {K : mt_C} {fu : Nat} {r : Int32} {σf : mt_St} (hQ : mt_R K (some .int) (some (.int r)) σf) : ∀ (n : Nat) (σ : mt_St), mt_V K cX6_text RX6 2 8 σ 33 [(0, .ref (mt_adr (kG K) 56))] [] (bX6_text_33 fu n σ = some (r, σf)) := by
  intro n
  induction n with
  | zero => intro σ; intro hP; unfold bX6_text_33 at hP; cases hP
  | succ n ih =>
    intro σ
    unfold bX6_text_33
    refine mv_aload_n 0 dX6_text_33 rfl rfl ?_
    refine mg_X6_12 fl_X6_247 dX6_text_34 ?_
    refine mv_if_ne 74 dX6_text_37 (by decide) ?_ ?_
    · exact vX6_text_74 hQ σ
    · refine mv_aload_n 0 dX6_text_40 rfl rfl ?_
      refine mg_X6_10 fl_X6_237 dX6_text_41 ?_
      refine mv_iconst (v := 3) dX6_text_44 ic_3 ?_
      refine mv_icmp_ne 74 dX6_text_45 (by decide) ?_ ?_
      · exact vX6_text_74 hQ σ
      · refine mv_aload_n 0 dX6_text_48 rfl rfl ?_
        refine mg_X6_6 fl_X6_22 dX6_text_49 ?_
        refine mv_aload_n 0 dX6_text_52 rfl rfl ?_
        refine mg_X6_8 fl_X6_228 dX6_text_53 ?_
        refine mv_iald 120 rfl rfl dX6_text_56 ?_
        refine mv_bipush (v := 59) dX6_text_57 bp_59 ?_
        refine mv_icmp_ne 74 dX6_text_59 (by decide) ?_ ?_
        · exact vX6_text_74 hQ σ
        · refine mv_aload_n 0 dX6_text_62 rfl rfl ?_
          refine mv_iconst (v := 1) dX6_text_63 ic_1 ?_
          refine mv_cVwv (As := [.int (1 : Int32)]) (st := []) cal_X6_must ins_X6_must ml_X6_254 rfl (by decide) rfl rfl (by decide) rfl (Nat.le_of_ble_eq_true rfl) dX6_text_64 (fun r s h => co_X6_must h) (fun r1 s2 => ?_)
          refine mv_aload_n 0 dX6_text_67 rfl rfl ?_
          refine mv_cVwv (As := []) (st := []) cal_X6_readItem ins_X6_readItem ml_X6_296 rfl (by decide) rfl rfl (by decide) rfl (Nat.le_of_ble_eq_true rfl) dX6_text_68 (fun r s h => co_X6_readItem h) (fun r3 s4 => ?_)
          refine mv_goto 33 dX6_text_71 (by decide) ?_
          exact ih s4
def fX6_text (fu : Nat) (σ : mt_St) : Option (Int32 × mt_St) :=
  mt_bnd (mt_up σ 56 9 (0 : Int32)) fun s1 =>
  mt_bnd (mt_up s1 56 12 (0 : Int32)) fun s2 =>
  mt_bnd (mt_up s2 56 15 (0 : Int32)) fun s3 =>
  mt_bnd (mt_up s3 56 16 (s3 57 1)) fun s4 =>
  mt_call (fX6_token fu s4) fun _ s6 =>
  mt_call (fX6_readItem fu s6) fun _ s8 =>
  bX6_text_33 fu fu s8
set_option maxHeartbeats 4000000 in
set_option maxRecDepth 20000 in
theorem vX6_text {K : mt_C} {fu : Nat} {σ : mt_St} {r : Int32} {σf : mt_St} (hQ : mt_R K (some .int) (some (.int r)) σf) : mt_V K cX6_text RX6 2 8 σ 0 [(0, .ref (mt_adr (kG K) 56))] [] (fX6_text fu σ = some (r, σf)) := by
  unfold fX6_text
  refine mv_aload_n 0 dX6_text_0 rfl rfl ?_
  refine mv_iconst (v := 0) dX6_text_1 ic_0 ?_
  refine mp_X6_9 fl_X6_225 dX6_text_2 (fun s1 => ?_)
  refine mv_aload_n 0 dX6_text_5 rfl rfl ?_
  refine mv_iconst (v := 0) dX6_text_6 ic_0 ?_
  refine mz_X6_12 (by decide) fl_X6_247 dX6_text_7 (fun s2 => ?_)
  refine mv_aload_n 0 dX6_text_10 rfl rfl ?_
  refine mv_iconst (v := 0) dX6_text_11 ic_0 ?_
  refine mp_X6_15 fl_X6_258 dX6_text_12 (fun s3 => ?_)
  refine mv_aload_n 0 dX6_text_15 rfl rfl ?_
  refine mv_aload_n 0 dX6_text_16 rfl rfl ?_
  refine mg_X6_0 fl_X6_9 dX6_text_17 ?_
  refine mv_iconst (v := 1) dX6_text_20 ic_1 ?_
  refine mv_ialdk 86 1 rfl rfl (by decide) (by decide) dX6_text_21 ?_
  refine mp_X6_16 fl_X6_265 dX6_text_22 (fun s4 => ?_)
  refine mv_aload_n 0 dX6_text_25 rfl rfl ?_
  refine mv_cVwv (As := []) (st := []) cal_X6_token ins_X6_token ml_X6_251 rfl (by decide) rfl rfl (by decide) rfl (Nat.le_of_ble_eq_true rfl) dX6_text_26 (fun r s h => co_X6_token h) (fun r5 s6 => ?_)
  refine mv_aload_n 0 dX6_text_29 rfl rfl ?_
  refine mv_cVwv (As := []) (st := []) cal_X6_readItem ins_X6_readItem ml_X6_296 rfl (by decide) rfl rfl (by decide) rfl (Nat.le_of_ble_eq_true rfl) dX6_text_30 (fun r s h => co_X6_readItem h) (fun r7 s8 => ?_)
  exact vX6_text_33 hQ fu s8
theorem co_X6_text {l : Launch} {G : mt_G} {fu : Nat} {σ : mt_St} {r : Int32} {σf : mt_St}  (h : fX6_text fu σ = some (r, σf)) : mt_Con l G yX6_text cX6_text 2 (some .int) 8 [.ref (mt_adr G 56)] σ (some (.int r)) σf :=
  mt_con (by decide) (Nat.le_of_ble_eq_true rfl) (fun K hl hG hQ => by subst hl; subst hG; exact fun _ => vX6_text  hQ h)
theorem dX6_isSpot_0 : decode cX6_isSpot 0 = .ok (.iload_n 0, 1) := by decide +kernel
theorem dX6_isSpot_1 : decode cX6_isSpot 1 = .ok (.iconst 0, 1) := by decide +kernel
theorem dX6_isSpot_2 : decode cX6_isSpot 2 = .ok (.bipush 9, 2) := by decide +kernel
theorem dX6_isSpot_4 : decode cX6_isSpot 4 = .ok (.invokestatic 70, 3) := by decide +kernel
theorem dX6_isSpot_7 : decode cX6_isSpot 7 = .ok (.ireturn, 1) := by decide +kernel
def fX6_isSpot (fu : Nat) (a1 : Int32) : Option Int32 :=
  mt_ask (fX6_within fu a1 (0 : Int32) (9 : Int32)) fun r1 =>
  mt_chk (mt_b01 r1) (some r1)
set_option maxHeartbeats 4000000 in
set_option maxRecDepth 20000 in
theorem vX6_isSpot {K : mt_C} {fu : Nat} {σ : mt_St} {a1 : Int32} {r : Int32} (hQ : mt_R K (some .boolean) (some (.int r)) σ) : mt_V K cX6_isSpot RX6 1 1 σ 0 [(0, .int a1)] [] (fX6_isSpot fu a1 = some r) := by
  unfold fX6_isSpot
  refine mv_iload_n 0 dX6_isSpot_0 rfl rfl ?_
  refine mv_iconst (v := 0) dX6_isSpot_1 ic_0 ?_
  refine mv_bipush (v := 9) dX6_isSpot_2 bp_9 ?_
  refine mv_cSri (As := [.int a1, .int (0 : Int32), .int (9 : Int32)]) (st := []) cal_X6_within sta_X6_within ml_X6_70 rfl (by decide) rfl (Nat.le_of_ble_eq_true rfl) dX6_isSpot_4 (fun r h => co_X6_within h) (fun r1 => ?_)
  exact mv_zretr hQ dX6_isSpot_7
theorem co_X6_isSpot {l : Launch} {G : mt_G} {fu : Nat} {σ : mt_St} {a1 : Int32} {r : Int32}  (h : fX6_isSpot fu a1 = some r) : mt_Con l G yX6_isSpot cX6_isSpot 1 (some .boolean) 1 [.int a1] σ (some (.int r)) σ :=
  mt_con (by decide) (Nat.le_of_ble_eq_true rfl) (fun K hl hG hQ => by subst hl; subst hG; exact fun _ => vX6_isSpot  hQ h)
theorem dX6_hold_0 : decode cX6_hold 0 = .ok (.iload_n 1, 1) := by decide +kernel
theorem dX6_hold_1 : decode cX6_hold 1 = .ok (.invokestatic 302, 3) := by decide +kernel
theorem dX6_hold_4 : decode cX6_hold 4 = .ok (.ifCond .eq 16, 3) := by decide +kernel
theorem dX6_hold_7 : decode cX6_hold 7 = .ok (.iload_n 2, 1) := by decide +kernel
theorem dX6_hold_8 : decode cX6_hold 8 = .ok (.iconst (-1), 1) := by decide +kernel
theorem dX6_hold_9 : decode cX6_hold 9 = .ok (.if_icmp .eq 18, 3) := by decide +kernel
theorem dX6_hold_12 : decode cX6_hold 12 = .ok (.aload_n 0, 1) := by decide +kernel
theorem dX6_hold_13 : decode cX6_hold 13 = .ok (.iload_n 2, 1) := by decide +kernel
theorem dX6_hold_14 : decode cX6_hold 14 = .ok (.invokevirtual 120, 3) := by decide +kernel
theorem dX6_hold_17 : decode cX6_hold 17 = .ok (.ifCond .ne 10, 3) := by decide +kernel
theorem dX6_hold_20 : decode cX6_hold 20 = .ok (.aload_n 0, 1) := by decide +kernel
theorem dX6_hold_21 : decode cX6_hold 21 = .ok (.ldc 60, 2) := by decide +kernel
theorem dX6_hold_23 : decode cX6_hold 23 = .ok (.invokevirtual 66, 3) := by decide +kernel
theorem dX6_hold_26 : decode cX6_hold 26 = .ok (.ireturn, 1) := by decide +kernel
theorem dX6_hold_27 : decode cX6_hold 27 = .ok (.aload_n 0, 1) := by decide +kernel
theorem dX6_hold_28 : decode cX6_hold 28 = .ok (.getfield 9, 3) := by decide +kernel
theorem dX6_hold_31 : decode cX6_hold 31 = .ok (.bipush 12, 2) := by decide +kernel
theorem dX6_hold_33 : decode cX6_hold 33 = .ok (.iload_n 1, 1) := by decide +kernel
theorem dX6_hold_34 : decode cX6_hold 34 = .ok (.iadd, 1) := by decide +kernel
theorem dX6_hold_35 : decode cX6_hold 35 = .ok (.iload_n 2, 1) := by decide +kernel
theorem dX6_hold_36 : decode cX6_hold 36 = .ok (.iastore, 1) := by decide +kernel
theorem dX6_hold_37 : decode cX6_hold 37 = .ok (.iconst 1, 1) := by decide +kernel
theorem dX6_hold_38 : decode cX6_hold 38 = .ok (.ireturn, 1) := by decide +kernel
def bX6_hold_27 (fu : Nat) (σ : mt_St) (x1 : Int32) (x2 : Int32) : Option (Int32 × mt_St) :=
  mt_chk (mt_in ((12 : Int32) + x1) 86) <|
  mt_bnd (mt_up σ 57 (Int32.toNatClampNeg ((12 : Int32) + x1)) x2) fun s1 =>
  some ((1 : Int32), s1)
set_option maxHeartbeats 4000000 in
set_option maxRecDepth 20000 in
theorem vX6_hold_27 {K : mt_C} {fu : Nat} {r : Int32} {σf : mt_St} (hQ : mt_R K (some .int) (some (.int r)) σf) : ∀ (σ : mt_St) (x1 : Int32) (x2 : Int32), mt_V K cX6_hold RX6 3 2 σ 27 [(0, .ref (mt_adr (kG K) 56)), (1, .int x1), (2, .int x2)] [] (bX6_hold_27 fu σ x1 x2 = some (r, σf)) := by
  intro σ x1 x2
  unfold bX6_hold_27
  refine mv_aload_n 0 dX6_hold_27 rfl rfl ?_
  refine mg_X6_0 fl_X6_9 dX6_hold_28 ?_
  refine mv_bipush (v := 12) dX6_hold_31 bp_12 ?_
  refine mv_iload_n 1 dX6_hold_33 rfl rfl ?_
  refine mv_iadd dX6_hold_34 ?_
  refine mv_iload_n 2 dX6_hold_35 rfl rfl ?_
  refine mv_iast 86 rfl rfl dX6_hold_36 (fun s1 => ?_)
  refine mv_iconst (v := 1) dX6_hold_37 ic_1 ?_
  exact mv_iret hQ dX6_hold_38
def bX6_hold_20 (fu : Nat) (σ : mt_St) : Option (Int32 × mt_St) :=
  mt_call (fX6_finding fu σ (-1000001 : Int32)) fun r1 s2 =>
  some (r1, s2)
set_option maxHeartbeats 4000000 in
set_option maxRecDepth 20000 in
theorem vX6_hold_20 {K : mt_C} {fu : Nat} {r : Int32} {σf : mt_St} (hQ : mt_R K (some .int) (some (.int r)) σf) : ∀ (σ : mt_St), mt_V K cX6_hold RX6 3 2 σ 20 [(0, .ref (mt_adr (kG K) 56))] [] (bX6_hold_20 fu σ = some (r, σf)) := by
  intro σ
  unfold bX6_hold_20
  refine mv_aload_n 0 dX6_hold_20 rfl rfl ?_
  refine mv_ldc kc_X6_60 dX6_hold_21 ?_
  refine mv_cVwi (As := [.int (-1000001 : Int32)]) (st := []) cal_X6_finding ins_X6_finding ml_X6_66 rfl (by decide) rfl rfl (by decide) rfl (Nat.le_of_ble_eq_true rfl) dX6_hold_23 (fun r s h => co_X6_finding h) (fun r1 s2 => ?_)
  exact mv_iret hQ dX6_hold_26
def fX6_hold (fu : Nat) (σ : mt_St) (a1 : Int32) (a2 : Int32) : Option (Int32 × mt_St) :=
  mt_ask (fX6_isSpot fu a1) fun r1 =>
  if r1 = 0 then
    bX6_hold_20 fu σ
  else
    if a2 = (-1 : Int32) then
      bX6_hold_27 fu σ a1 a2
    else
      mt_ask (fX6_isTreaty fu σ a2) fun r2 =>
      if r2 = 0 then
        bX6_hold_20 fu σ
      else
        bX6_hold_27 fu σ a1 a2
set_option maxHeartbeats 4000000 in
set_option maxRecDepth 20000 in
theorem vX6_hold {K : mt_C} {fu : Nat} {σ : mt_St} {a1 : Int32} {a2 : Int32} {r : Int32} {σf : mt_St} (hQ : mt_R K (some .int) (some (.int r)) σf) : mt_V K cX6_hold RX6 3 2 σ 0 [(0, .ref (mt_adr (kG K) 56)), (1, .int a1), (2, .int a2)] [] (fX6_hold fu σ a1 a2 = some (r, σf)) := by
  unfold fX6_hold
  refine mv_iload_n 1 dX6_hold_0 rfl rfl ?_
  refine mv_cSri (As := [.int a1]) (st := []) cal_X6_isSpot sta_X6_isSpot ml_X6_302 rfl (by decide) rfl (Nat.le_of_ble_eq_true rfl) dX6_hold_1 (fun r h => co_X6_isSpot h) (fun r1 => ?_)
  refine mv_if_eq 20 dX6_hold_4 (by decide) ?_ ?_
  · refine mv_sub (lv' := [(0, .ref (mt_adr (kG K) 56))]) [0] rfl ?_
    exact vX6_hold_20 hQ σ
  · refine mv_iload_n 2 dX6_hold_7 rfl rfl ?_
    refine mv_iconst (v := -1) dX6_hold_8 ic_m1 ?_
    refine mv_icmp_eq 27 dX6_hold_9 (by decide) ?_ ?_
    · exact vX6_hold_27 hQ σ a1 a2
    · refine mv_aload_n 0 dX6_hold_12 rfl rfl ?_
      refine mv_iload_n 2 dX6_hold_13 rfl rfl ?_
      refine mv_cVri (As := [.int a2]) (st := []) cal_X6_isTreaty ins_X6_isTreaty ml_X6_120 rfl (by decide) rfl rfl (by decide) rfl (Nat.le_of_ble_eq_true rfl) dX6_hold_14 (fun r h => co_X6_isTreaty h) (fun r2 => ?_)
      refine mv_if_ne 27 dX6_hold_17 (by decide) ?_ ?_
      · exact vX6_hold_27 hQ σ a1 a2
      · refine mv_sub (lv' := [(0, .ref (mt_adr (kG K) 56))]) [0] rfl ?_
        exact vX6_hold_20 hQ σ
theorem co_X6_hold {l : Launch} {G : mt_G} {fu : Nat} {σ : mt_St} {a1 : Int32} {a2 : Int32} {r : Int32} {σf : mt_St}  (h : fX6_hold fu σ a1 a2 = some (r, σf)) : mt_Con l G yX6_hold cX6_hold 3 (some .int) 2 [.ref (mt_adr G 56), .int a1, .int a2] σ (some (.int r)) σf :=
  mt_con (by decide) (Nat.le_of_ble_eq_true rfl) (fun K hl hG hQ => by subst hl; subst hG; exact fun _ => vX6_hold  hQ h)
theorem dX6_above_0 : decode cX6_above 0 = .ok (.iload_n 0, 1) := by decide +kernel
theorem dX6_above_1 : decode cX6_above 1 = .ok (.ifCond .ne 7, 3) := by decide +kernel
theorem dX6_above_4 : decode cX6_above 4 = .ok (.iconst (-1), 1) := by decide +kernel
theorem dX6_above_5 : decode cX6_above 5 = .ok (.goto 32, 3) := by decide +kernel
theorem dX6_above_8 : decode cX6_above 8 = .ok (.iload_n 0, 1) := by decide +kernel
theorem dX6_above_9 : decode cX6_above 9 = .ok (.iconst 3, 1) := by decide +kernel
theorem dX6_above_10 : decode cX6_above 10 = .ok (.if_icmp .ne 7, 3) := by decide +kernel
theorem dX6_above_13 : decode cX6_above 13 = .ok (.iconst 2, 1) := by decide +kernel
theorem dX6_above_14 : decode cX6_above 14 = .ok (.goto 23, 3) := by decide +kernel
theorem dX6_above_17 : decode cX6_above 17 = .ok (.iload_n 0, 1) := by decide +kernel
theorem dX6_above_18 : decode cX6_above 18 = .ok (.iconst 4, 1) := by decide +kernel
theorem dX6_above_19 : decode cX6_above 19 = .ok (.if_icmp .ne 7, 3) := by decide +kernel
theorem dX6_above_22 : decode cX6_above 22 = .ok (.iconst 3, 1) := by decide +kernel
theorem dX6_above_23 : decode cX6_above 23 = .ok (.goto 14, 3) := by decide +kernel
theorem dX6_above_26 : decode cX6_above 26 = .ok (.iload_n 0, 1) := by decide +kernel
theorem dX6_above_27 : decode cX6_above 27 = .ok (.bipush 6, 2) := by decide +kernel
theorem dX6_above_29 : decode cX6_above 29 = .ok (.if_icmp .ne 7, 3) := by decide +kernel
theorem dX6_above_32 : decode cX6_above 32 = .ok (.iconst 1, 1) := by decide +kernel
theorem dX6_above_33 : decode cX6_above 33 = .ok (.goto 4, 3) := by decide +kernel
theorem dX6_above_36 : decode cX6_above 36 = .ok (.iconst 0, 1) := by decide +kernel
theorem dX6_above_37 : decode cX6_above 37 = .ok (.ireturn, 1) := by decide +kernel
def bX6_above_37 (fu : Nat) (y0 : Int32) : Option Int32 :=
  some y0
set_option maxHeartbeats 4000000 in
set_option maxRecDepth 20000 in
theorem vX6_above_37 {K : mt_C} {fu : Nat} {σ : mt_St} {r : Int32} (hQ : mt_R K (some .int) (some (.int r)) σ) : ∀ (y0 : Int32), mt_V K cX6_above RX6 1 0 σ 37 [] [.int y0] (bX6_above_37 fu y0 = some r) := by
  intro y0
  unfold bX6_above_37
  exact mv_iretr hQ dX6_above_37
def fX6_above (fu : Nat) (a1 : Int32) : Option Int32 :=
  if a1 = 0 then
    bX6_above_37 fu (-1 : Int32)
  else
    if a1 = (3 : Int32) then
      bX6_above_37 fu (2 : Int32)
    else
      if a1 = (4 : Int32) then
        bX6_above_37 fu (3 : Int32)
      else
        if a1 = (6 : Int32) then
          bX6_above_37 fu (1 : Int32)
        else
          bX6_above_37 fu (0 : Int32)
set_option maxHeartbeats 4000000 in
set_option maxRecDepth 20000 in
theorem vX6_above {K : mt_C} {fu : Nat} {σ : mt_St} {a1 : Int32} {r : Int32} (hQ : mt_R K (some .int) (some (.int r)) σ) : mt_V K cX6_above RX6 1 0 σ 0 [(0, .int a1)] [] (fX6_above fu a1 = some r) := by
  unfold fX6_above
  refine mv_iload_n 0 dX6_above_0 rfl rfl ?_
  refine mv_if_ne 8 dX6_above_1 (by decide) ?_ ?_
  · refine mv_iload_n 0 dX6_above_8 rfl rfl ?_
    refine mv_iconst (v := 3) dX6_above_9 ic_3 ?_
    refine mv_icmp_ne 17 dX6_above_10 (by decide) ?_ ?_
    · refine mv_iload_n 0 dX6_above_17 rfl rfl ?_
      refine mv_iconst (v := 4) dX6_above_18 ic_4 ?_
      refine mv_icmp_ne 26 dX6_above_19 (by decide) ?_ ?_
      · refine mv_iload_n 0 dX6_above_26 rfl rfl ?_
        refine mv_bipush (v := 6) dX6_above_27 bp_6 ?_
        refine mv_icmp_ne 36 dX6_above_29 (by decide) ?_ ?_
        · refine mv_iconst (v := 0) dX6_above_36 ic_0 ?_
          refine mv_sub (lv' := []) [] rfl ?_
          exact vX6_above_37 hQ (0 : Int32)
        · refine mv_iconst (v := 1) dX6_above_32 ic_1 ?_
          refine mv_goto 37 dX6_above_33 (by decide) ?_
          refine mv_sub (lv' := []) [] rfl ?_
          exact vX6_above_37 hQ (1 : Int32)
      · refine mv_iconst (v := 3) dX6_above_22 ic_3 ?_
        refine mv_goto 37 dX6_above_23 (by decide) ?_
        refine mv_sub (lv' := []) [] rfl ?_
        exact vX6_above_37 hQ (3 : Int32)
    · refine mv_iconst (v := 2) dX6_above_13 ic_2 ?_
      refine mv_goto 37 dX6_above_14 (by decide) ?_
      refine mv_sub (lv' := []) [] rfl ?_
      exact vX6_above_37 hQ (2 : Int32)
  · refine mv_iconst (v := -1) dX6_above_4 ic_m1 ?_
    refine mv_goto 37 dX6_above_5 (by decide) ?_
    refine mv_sub (lv' := []) [] rfl ?_
    exact vX6_above_37 hQ (-1 : Int32)
theorem co_X6_above {l : Launch} {G : mt_G} {fu : Nat} {σ : mt_St} {a1 : Int32} {r : Int32}  (h : fX6_above fu a1 = some r) : mt_Con l G yX6_above cX6_above 1 (some .int) 0 [.int a1] σ (some (.int r)) σ :=
  mt_con (by decide) (Nat.le_of_ble_eq_true rfl) (fun K hl hG hQ => by subst hl; subst hG; exact fun _ => vX6_above  hQ h)
theorem dX6_isUnder_0 : decode cX6_isUnder 0 = .ok (.iload_n 0, 1) := by decide +kernel
theorem dX6_isUnder_1 : decode cX6_isUnder 1 = .ok (.istore_n 2, 1) := by decide +kernel
theorem dX6_isUnder_2 : decode cX6_isUnder 2 = .ok (.iload_n 2, 1) := by decide +kernel
theorem dX6_isUnder_3 : decode cX6_isUnder 3 = .ok (.ifCond .lt 16, 3) := by decide +kernel
theorem dX6_isUnder_6 : decode cX6_isUnder 6 = .ok (.iload_n 2, 1) := by decide +kernel
theorem dX6_isUnder_7 : decode cX6_isUnder 7 = .ok (.iload_n 1, 1) := by decide +kernel
theorem dX6_isUnder_8 : decode cX6_isUnder 8 = .ok (.if_icmp .eq 11, 3) := by decide +kernel
theorem dX6_isUnder_11 : decode cX6_isUnder 11 = .ok (.iload_n 2, 1) := by decide +kernel
theorem dX6_isUnder_12 : decode cX6_isUnder 12 = .ok (.invokestatic 313, 3) := by decide +kernel
theorem dX6_isUnder_15 : decode cX6_isUnder 15 = .ok (.istore_n 2, 1) := by decide +kernel
theorem dX6_isUnder_16 : decode cX6_isUnder 16 = .ok (.goto (-14), 3) := by decide +kernel
theorem dX6_isUnder_19 : decode cX6_isUnder 19 = .ok (.iload_n 2, 1) := by decide +kernel
theorem dX6_isUnder_20 : decode cX6_isUnder 20 = .ok (.ifCond .lt 7, 3) := by decide +kernel
theorem dX6_isUnder_23 : decode cX6_isUnder 23 = .ok (.iconst 1, 1) := by decide +kernel
theorem dX6_isUnder_24 : decode cX6_isUnder 24 = .ok (.goto 4, 3) := by decide +kernel
theorem dX6_isUnder_27 : decode cX6_isUnder 27 = .ok (.iconst 0, 1) := by decide +kernel
theorem dX6_isUnder_28 : decode cX6_isUnder 28 = .ok (.ireturn, 1) := by decide +kernel
def bX6_isUnder_28 (fu : Nat) (y0 : Int32) : Option Int32 :=
  mt_chk (mt_b01 y0) (some y0)
set_option maxHeartbeats 4000000 in
set_option maxRecDepth 20000 in
theorem vX6_isUnder_28 {K : mt_C} {fu : Nat} {σ : mt_St} {r : Int32} (hQ : mt_R K (some .boolean) (some (.int r)) σ) : ∀ (y0 : Int32), mt_V K cX6_isUnder RX6 3 1 σ 28 [] [.int y0] (bX6_isUnder_28 fu y0 = some r) := by
  intro y0
  unfold bX6_isUnder_28
  exact mv_zretr hQ dX6_isUnder_28
def bX6_isUnder_19 (fu : Nat) (x2 : Int32) : Option Int32 :=
  if x2 < 0 then
    bX6_isUnder_28 fu (0 : Int32)
  else
    bX6_isUnder_28 fu (1 : Int32)
set_option maxHeartbeats 4000000 in
set_option maxRecDepth 20000 in
theorem vX6_isUnder_19 {K : mt_C} {fu : Nat} {σ : mt_St} {r : Int32} (hQ : mt_R K (some .boolean) (some (.int r)) σ) : ∀ (x2 : Int32), mt_V K cX6_isUnder RX6 3 1 σ 19 [(2, .int x2)] [] (bX6_isUnder_19 fu x2 = some r) := by
  intro x2
  unfold bX6_isUnder_19
  refine mv_iload_n 0 dX6_isUnder_19 rfl rfl ?_
  refine mv_if_lt 27 dX6_isUnder_20 (by decide) ?_ ?_
  · refine mv_iconst (v := 0) dX6_isUnder_27 ic_0 ?_
    refine mv_sub (lv' := []) [] rfl ?_
    exact vX6_isUnder_28 hQ (0 : Int32)
  · refine mv_iconst (v := 1) dX6_isUnder_23 ic_1 ?_
    refine mv_goto 28 dX6_isUnder_24 (by decide) ?_
    refine mv_sub (lv' := []) [] rfl ?_
    exact vX6_isUnder_28 hQ (1 : Int32)
def bX6_isUnder_2 (fu : Nat) : Nat → Int32 → Int32 → Option Int32
  | 0, _, _ => none
  | n + 1, x1, x2 =>
    if x2 < 0 then
      bX6_isUnder_19 fu x2
    else
      if x2 = x1 then
        bX6_isUnder_19 fu x2
      else
        mt_ask (fX6_above fu x2) fun r1 =>
        bX6_isUnder_2 fu n x1 r1
set_option maxHeartbeats 4000000 in
set_option maxRecDepth 20000 in
theorem vX6_isUnder_2 {K : mt_C} {fu : Nat} {σ : mt_St} {r : Int32} (hQ : mt_R K (some .boolean) (some (.int r)) σ) : ∀ (n : Nat) (x1 : Int32) (x2 : Int32), mt_V K cX6_isUnder RX6 3 1 σ 2 [(1, .int x1), (2, .int x2)] [] (bX6_isUnder_2 fu n x1 x2 = some r) := by
  intro n
  induction n with
  | zero => intro x1 x2; intro hP; unfold bX6_isUnder_2 at hP; cases hP
  | succ n ih =>
    intro x1 x2
    unfold bX6_isUnder_2
    refine mv_iload_n 1 dX6_isUnder_2 rfl rfl ?_
    refine mv_if_lt 19 dX6_isUnder_3 (by decide) ?_ ?_
    · refine mv_sub (lv' := [(2, .int x2)]) [1] rfl ?_
      exact vX6_isUnder_19 hQ x2
    · refine mv_iload_n 1 dX6_isUnder_6 rfl rfl ?_
      refine mv_iload_n 0 dX6_isUnder_7 rfl rfl ?_
      refine mv_icmp_eq 19 dX6_isUnder_8 (by decide) ?_ ?_
      · refine mv_sub (lv' := [(2, .int x2)]) [1] rfl ?_
        exact vX6_isUnder_19 hQ x2
      · refine mv_iload_n 1 dX6_isUnder_11 rfl rfl ?_
        refine mv_cSri (As := [.int x2]) (st := []) cal_X6_above sta_X6_above ml_X6_313 rfl (by decide) rfl (Nat.le_of_ble_eq_true rfl) dX6_isUnder_12 (fun r h => co_X6_above h) (fun r1 => ?_)
        refine mv_istore_n (lv' := [(1, .int x1), (2, .int r1)]) [1, 0] dX6_isUnder_15 rfl (by decide) rfl ?_
        refine mv_goto 2 dX6_isUnder_16 (by decide) ?_
        exact ih x1 r1
def fX6_isUnder (fu : Nat) (a1 : Int32) (a2 : Int32) : Option Int32 :=
  bX6_isUnder_2 fu fu a2 a1
set_option maxHeartbeats 4000000 in
set_option maxRecDepth 20000 in
theorem vX6_isUnder {K : mt_C} {fu : Nat} {σ : mt_St} {a1 : Int32} {a2 : Int32} {r : Int32} (hQ : mt_R K (some .boolean) (some (.int r)) σ) : mt_V K cX6_isUnder RX6 3 1 σ 0 [(0, .int a1), (1, .int a2)] [] (fX6_isUnder fu a1 a2 = some r) := by
  unfold fX6_isUnder
  refine mv_iload_n 0 dX6_isUnder_0 rfl rfl ?_
  refine mv_istore_n (lv' := [(1, .int a2), (2, .int a1)]) [2, 0] dX6_isUnder_1 rfl (by decide) rfl ?_
  exact vX6_isUnder_2 hQ fu a2 a1
theorem co_X6_isUnder {l : Launch} {G : mt_G} {fu : Nat} {σ : mt_St} {a1 : Int32} {a2 : Int32} {r : Int32}  (h : fX6_isUnder fu a1 a2 = some r) : mt_Con l G yX6_isUnder cX6_isUnder 3 (some .boolean) 1 [.int a1, .int a2] σ (some (.int r)) σ :=
  mt_con (by decide) (Nat.le_of_ble_eq_true rfl) (fun K hl hG hQ => by subst hl; subst hG; exact fun _ => vX6_isUnder  hQ h)
theorem dX6_as_0 : decode cX6_as 0 = .ok (.iload_n 1, 1) := by decide +kernel
theorem dX6_as_1 : decode cX6_as 1 = .ok (.invokestatic 302, 3) := by decide +kernel
theorem dX6_as_4 : decode cX6_as 4 = .ok (.ifCond .eq 10, 3) := by decide +kernel
theorem dX6_as_7 : decode cX6_as 7 = .ok (.iload_n 2, 1) := by decide +kernel
theorem dX6_as_8 : decode cX6_as 8 = .ok (.invokestatic 88, 3) := by decide +kernel
theorem dX6_as_11 : decode cX6_as 11 = .ok (.ifCond .ne 10, 3) := by decide +kernel
theorem dX6_as_14 : decode cX6_as 14 = .ok (.aload_n 0, 1) := by decide +kernel
theorem dX6_as_15 : decode cX6_as 15 = .ok (.ldc 60, 2) := by decide +kernel
theorem dX6_as_17 : decode cX6_as 17 = .ok (.invokevirtual 66, 3) := by decide +kernel
theorem dX6_as_20 : decode cX6_as 20 = .ok (.ireturn, 1) := by decide +kernel
theorem dX6_as_21 : decode cX6_as 21 = .ok (.aload_n 0, 1) := by decide +kernel
theorem dX6_as_22 : decode cX6_as 22 = .ok (.getfield 9, 3) := by decide +kernel
theorem dX6_as_25 : decode cX6_as 25 = .ok (.bipush 12, 2) := by decide +kernel
theorem dX6_as_27 : decode cX6_as 27 = .ok (.iload_n 1, 1) := by decide +kernel
theorem dX6_as_28 : decode cX6_as 28 = .ok (.iadd, 1) := by decide +kernel
theorem dX6_as_29 : decode cX6_as 29 = .ok (.iaload, 1) := by decide +kernel
theorem dX6_as_30 : decode cX6_as 30 = .ok (.istore_n 3, 1) := by decide +kernel
theorem dX6_as_31 : decode cX6_as 31 = .ok (.iload_n 3, 1) := by decide +kernel
theorem dX6_as_32 : decode cX6_as 32 = .ok (.ifCond .ge 10, 3) := by decide +kernel
theorem dX6_as_35 : decode cX6_as 35 = .ok (.aload_n 0, 1) := by decide +kernel
theorem dX6_as_36 : decode cX6_as 36 = .ok (.ldc 210, 2) := by decide +kernel
theorem dX6_as_38 : decode cX6_as 38 = .ok (.invokevirtual 66, 3) := by decide +kernel
theorem dX6_as_41 : decode cX6_as 41 = .ok (.ireturn, 1) := by decide +kernel
theorem dX6_as_42 : decode cX6_as 42 = .ok (.aload_n 0, 1) := by decide +kernel
theorem dX6_as_43 : decode cX6_as 43 = .ok (.iload_n 3, 1) := by decide +kernel
theorem dX6_as_44 : decode cX6_as 44 = .ok (.iconst 0, 1) := by decide +kernel
theorem dX6_as_45 : decode cX6_as 45 = .ok (.invokevirtual 99, 3) := by decide +kernel
theorem dX6_as_48 : decode cX6_as 48 = .ok (.iload_n 2, 1) := by decide +kernel
theorem dX6_as_49 : decode cX6_as 49 = .ok (.invokestatic 305, 3) := by decide +kernel
theorem dX6_as_52 : decode cX6_as 52 = .ok (.ifCond .eq 7, 3) := by decide +kernel
theorem dX6_as_55 : decode cX6_as 55 = .ok (.iload_n 3, 1) := by decide +kernel
theorem dX6_as_56 : decode cX6_as 56 = .ok (.goto 10, 3) := by decide +kernel
theorem dX6_as_59 : decode cX6_as 59 = .ok (.aload_n 0, 1) := by decide +kernel
theorem dX6_as_60 : decode cX6_as 60 = .ok (.ldc_w 308, 3) := by decide +kernel
theorem dX6_as_63 : decode cX6_as 63 = .ok (.invokevirtual 66, 3) := by decide +kernel
theorem dX6_as_66 : decode cX6_as 66 = .ok (.ireturn, 1) := by decide +kernel
def bX6_as_66 (fu : Nat) (σ : mt_St) (y0 : Int32) : Option (Int32 × mt_St) :=
  some (y0, σ)
set_option maxHeartbeats 4000000 in
set_option maxRecDepth 20000 in
theorem vX6_as_66 {K : mt_C} {fu : Nat} {r : Int32} {σf : mt_St} (hQ : mt_R K (some .int) (some (.int r)) σf) : ∀ (σ : mt_St) (y0 : Int32), mt_V K cX6_as RX6 4 2 σ 66 [] [.int y0] (bX6_as_66 fu σ y0 = some (r, σf)) := by
  intro σ y0
  unfold bX6_as_66
  exact mv_iret hQ dX6_as_66
def bX6_as_14 (fu : Nat) (σ : mt_St) : Option (Int32 × mt_St) :=
  mt_call (fX6_finding fu σ (-1000001 : Int32)) fun r1 s2 =>
  some (r1, s2)
set_option maxHeartbeats 4000000 in
set_option maxRecDepth 20000 in
theorem vX6_as_14 {K : mt_C} {fu : Nat} {r : Int32} {σf : mt_St} (hQ : mt_R K (some .int) (some (.int r)) σf) : ∀ (σ : mt_St), mt_V K cX6_as RX6 4 2 σ 14 [(0, .ref (mt_adr (kG K) 56))] [] (bX6_as_14 fu σ = some (r, σf)) := by
  intro σ
  unfold bX6_as_14
  refine mv_aload_n 0 dX6_as_14 rfl rfl ?_
  refine mv_ldc kc_X6_60 dX6_as_15 ?_
  refine mv_cVwi (As := [.int (-1000001 : Int32)]) (st := []) cal_X6_finding ins_X6_finding ml_X6_66 rfl (by decide) rfl rfl (by decide) rfl (Nat.le_of_ble_eq_true rfl) dX6_as_17 (fun r s h => co_X6_finding h) (fun r1 s2 => ?_)
  exact mv_iret hQ dX6_as_20
def fX6_as (fu : Nat) (σ : mt_St) (a1 : Int32) (a2 : Int32) : Option (Int32 × mt_St) :=
  mt_ask (fX6_isSpot fu a1) fun r1 =>
  if r1 = 0 then
    bX6_as_14 fu σ
  else
    mt_ask (fX6_isKind fu a2) fun r2 =>
    if r2 = 0 then
      bX6_as_14 fu σ
    else
      mt_chk (mt_in ((12 : Int32) + a1) 86) <|
      if 0 ≤ (σ 57 (Int32.toNatClampNeg ((12 : Int32) + a1))) then
        mt_ask (fX6_treatyIs fu σ (σ 57 (Int32.toNatClampNeg ((12 : Int32) + a1))) (0 : Int32)) fun r3 =>
        mt_ask (fX6_isUnder fu r3 a2) fun r4 =>
        if r4 = 0 then
          mt_call (fX6_finding fu σ (-1000003 : Int32)) fun r5 s6 =>
          bX6_as_66 fu s6 r5
        else
          bX6_as_66 fu σ (σ 57 (Int32.toNatClampNeg ((12 : Int32) + a1)))
      else
        mt_call (fX6_finding fu σ (-1000006 : Int32)) fun r7 s8 =>
        some (r7, s8)
set_option maxHeartbeats 4000000 in
set_option maxRecDepth 20000 in
theorem vX6_as {K : mt_C} {fu : Nat} {σ : mt_St} {a1 : Int32} {a2 : Int32} {r : Int32} {σf : mt_St} (hQ : mt_R K (some .int) (some (.int r)) σf) : mt_V K cX6_as RX6 4 2 σ 0 [(0, .ref (mt_adr (kG K) 56)), (1, .int a1), (2, .int a2)] [] (fX6_as fu σ a1 a2 = some (r, σf)) := by
  unfold fX6_as
  refine mv_iload_n 1 dX6_as_0 rfl rfl ?_
  refine mv_cSri (As := [.int a1]) (st := []) cal_X6_isSpot sta_X6_isSpot ml_X6_302 rfl (by decide) rfl (Nat.le_of_ble_eq_true rfl) dX6_as_1 (fun r h => co_X6_isSpot h) (fun r1 => ?_)
  refine mv_if_eq 14 dX6_as_4 (by decide) ?_ ?_
  · refine mv_sub (lv' := [(0, .ref (mt_adr (kG K) 56))]) [0] rfl ?_
    exact vX6_as_14 hQ σ
  · refine mv_iload_n 2 dX6_as_7 rfl rfl ?_
    refine mv_cSri (As := [.int a2]) (st := []) cal_X6_isKind sta_X6_isKind ml_X6_88 rfl (by decide) rfl (Nat.le_of_ble_eq_true rfl) dX6_as_8 (fun r h => co_X6_isKind h) (fun r2 => ?_)
    refine mv_if_ne 21 dX6_as_11 (by decide) ?_ ?_
    · refine mv_aload_n 0 dX6_as_21 rfl rfl ?_
      refine mg_X6_0 fl_X6_9 dX6_as_22 ?_
      refine mv_bipush (v := 12) dX6_as_25 bp_12 ?_
      refine mv_iload_n 1 dX6_as_27 rfl rfl ?_
      refine mv_iadd dX6_as_28 ?_
      refine mv_iald 86 rfl rfl dX6_as_29 ?_
      refine mv_istore_n (lv' := [(0, .ref (mt_adr (kG K) 56)), (2, .int a2), (3, .int (σ 57 (Int32.toNatClampNeg ((12 : Int32) + a1))))]) [1, 3, 0] dX6_as_30 rfl (by decide) rfl ?_
      refine mv_iload_n 2 dX6_as_31 rfl rfl ?_
      refine mv_if_ge 42 dX6_as_32 (by decide) ?_ ?_
      · refine mv_aload_n 0 dX6_as_42 rfl rfl ?_
        refine mv_iload_n 2 dX6_as_43 rfl rfl ?_
        refine mv_iconst (v := 0) dX6_as_44 ic_0 ?_
        refine mv_cVri (As := [.int (σ 57 (Int32.toNatClampNeg ((12 : Int32) + a1))), .int (0 : Int32)]) (st := []) cal_X6_treatyIs ins_X6_treatyIs ml_X6_99 rfl (by decide) rfl rfl (by decide) rfl (Nat.le_of_ble_eq_true rfl) dX6_as_45 (fun r h => co_X6_treatyIs h) (fun r3 => ?_)
        refine mv_iload_n 1 dX6_as_48 rfl rfl ?_
        refine mv_cSri (As := [.int r3, .int a2]) (st := []) cal_X6_isUnder sta_X6_isUnder ml_X6_305 rfl (by decide) rfl (Nat.le_of_ble_eq_true rfl) dX6_as_49 (fun r h => co_X6_isUnder h) (fun r4 => ?_)
        refine mv_if_eq 59 dX6_as_52 (by decide) ?_ ?_
        · refine mv_aload_n 0 dX6_as_59 rfl rfl ?_
          refine mv_ldcw kc_X6_308 dX6_as_60 ?_
          refine mv_cVwi (As := [.int (-1000003 : Int32)]) (st := []) cal_X6_finding ins_X6_finding ml_X6_66 rfl (by decide) rfl rfl (by decide) rfl (Nat.le_of_ble_eq_true rfl) dX6_as_63 (fun r s h => co_X6_finding h) (fun r5 s6 => ?_)
          refine mv_sub (lv' := []) [] rfl ?_
          exact vX6_as_66 hQ s6 r5
        · refine mv_iload_n 2 dX6_as_55 rfl rfl ?_
          refine mv_goto 66 dX6_as_56 (by decide) ?_
          refine mv_sub (lv' := []) [] rfl ?_
          exact vX6_as_66 hQ σ (σ 57 (Int32.toNatClampNeg ((12 : Int32) + a1)))
      · refine mv_aload_n 0 dX6_as_35 rfl rfl ?_
        refine mv_ldc kc_X6_210 dX6_as_36 ?_
        refine mv_cVwi (As := [.int (-1000006 : Int32)]) (st := []) cal_X6_finding ins_X6_finding ml_X6_66 rfl (by decide) rfl rfl (by decide) rfl (Nat.le_of_ble_eq_true rfl) dX6_as_38 (fun r s h => co_X6_finding h) (fun r7 s8 => ?_)
        exact mv_iret hQ dX6_as_41
    · refine mv_sub (lv' := [(0, .ref (mt_adr (kG K) 56))]) [0] rfl ?_
      exact vX6_as_14 hQ σ
theorem co_X6_as {l : Launch} {G : mt_G} {fu : Nat} {σ : mt_St} {a1 : Int32} {a2 : Int32} {r : Int32} {σf : mt_St}  (h : fX6_as fu σ a1 a2 = some (r, σf)) : mt_Con l G yX6_as cX6_as 4 (some .int) 2 [.ref (mt_adr G 56), .int a1, .int a2] σ (some (.int r)) σf :=
  mt_con (by decide) (Nat.le_of_ble_eq_true rfl) (fun K hl hG hQ => by subst hl; subst hG; exact fun _ => vX6_as  hQ h)
theorem dX6_cutTo_0 : decode cX6_cutTo 0 = .ok (.iload_n 1, 1) := by decide +kernel
theorem dX6_cutTo_1 : decode cX6_cutTo 1 = .ok (.bipush 8, 2) := by decide +kernel
theorem dX6_cutTo_3 : decode cX6_cutTo 3 = .ok (.if_icmp .ne 8, 3) := by decide +kernel
theorem dX6_cutTo_6 : decode cX6_cutTo 6 = .ok (.iload_n 0, 1) := by decide +kernel
theorem dX6_cutTo_7 : decode cX6_cutTo 7 = .ok (.i2b, 1) := by decide +kernel
theorem dX6_cutTo_8 : decode cX6_cutTo 8 = .ok (.goto 15, 3) := by decide +kernel
theorem dX6_cutTo_11 : decode cX6_cutTo 11 = .ok (.iload_n 1, 1) := by decide +kernel
theorem dX6_cutTo_12 : decode cX6_cutTo 12 = .ok (.bipush 16, 2) := by decide +kernel
theorem dX6_cutTo_14 : decode cX6_cutTo 14 = .ok (.if_icmp .ne 8, 3) := by decide +kernel
theorem dX6_cutTo_17 : decode cX6_cutTo 17 = .ok (.iload_n 0, 1) := by decide +kernel
theorem dX6_cutTo_18 : decode cX6_cutTo 18 = .ok (.i2s, 1) := by decide +kernel
theorem dX6_cutTo_19 : decode cX6_cutTo 19 = .ok (.goto 4, 3) := by decide +kernel
theorem dX6_cutTo_22 : decode cX6_cutTo 22 = .ok (.iload_n 0, 1) := by decide +kernel
theorem dX6_cutTo_23 : decode cX6_cutTo 23 = .ok (.ireturn, 1) := by decide +kernel
def bX6_cutTo_23 (fu : Nat) (y0 : Int32) : Option Int32 :=
  some y0
set_option maxHeartbeats 4000000 in
set_option maxRecDepth 20000 in
theorem vX6_cutTo_23 {K : mt_C} {fu : Nat} {σ : mt_St} {r : Int32} (hQ : mt_R K (some .int) (some (.int r)) σ) : ∀ (y0 : Int32), mt_V K cX6_cutTo RX6 2 0 σ 23 [] [.int y0] (bX6_cutTo_23 fu y0 = some r) := by
  intro y0
  unfold bX6_cutTo_23
  exact mv_iretr hQ dX6_cutTo_23
def fX6_cutTo (fu : Nat) (a1 : Int32) (a2 : Int32) : Option Int32 :=
  if a2 = (8 : Int32) then
    bX6_cutTo_23 fu ((Int32.toInt8 a1).toInt32)
  else
    if a2 = (16 : Int32) then
      bX6_cutTo_23 fu ((Int32.toInt16 a1).toInt32)
    else
      bX6_cutTo_23 fu a1
set_option maxHeartbeats 4000000 in
set_option maxRecDepth 20000 in
theorem vX6_cutTo {K : mt_C} {fu : Nat} {σ : mt_St} {a1 : Int32} {a2 : Int32} {r : Int32} (hQ : mt_R K (some .int) (some (.int r)) σ) : mt_V K cX6_cutTo RX6 2 0 σ 0 [(0, .int a1), (1, .int a2)] [] (fX6_cutTo fu a1 a2 = some r) := by
  unfold fX6_cutTo
  refine mv_iload_n 1 dX6_cutTo_0 rfl rfl ?_
  refine mv_bipush (v := 8) dX6_cutTo_1 bp_8 ?_
  refine mv_icmp_ne 11 dX6_cutTo_3 (by decide) ?_ ?_
  · refine mv_iload_n 1 dX6_cutTo_11 rfl rfl ?_
    refine mv_bipush (v := 16) dX6_cutTo_12 bp_16 ?_
    refine mv_icmp_ne 22 dX6_cutTo_14 (by decide) ?_ ?_
    · refine mv_iload_n 0 dX6_cutTo_22 rfl rfl ?_
      refine mv_sub (lv' := []) [] rfl ?_
      exact vX6_cutTo_23 hQ a1
    · refine mv_iload_n 0 dX6_cutTo_17 rfl rfl ?_
      refine mv_i2s dX6_cutTo_18 ?_
      refine mv_goto 23 dX6_cutTo_19 (by decide) ?_
      refine mv_sub (lv' := []) [] rfl ?_
      exact vX6_cutTo_23 hQ ((Int32.toInt16 a1).toInt32)
  · refine mv_iload_n 0 dX6_cutTo_6 rfl rfl ?_
    refine mv_i2b dX6_cutTo_7 ?_
    refine mv_goto 23 dX6_cutTo_8 (by decide) ?_
    refine mv_sub (lv' := []) [] rfl ?_
    exact vX6_cutTo_23 hQ ((Int32.toInt8 a1).toInt32)
theorem co_X6_cutTo {l : Launch} {G : mt_G} {fu : Nat} {σ : mt_St} {a1 : Int32} {a2 : Int32} {r : Int32}  (h : fX6_cutTo fu a1 a2 = some r) : mt_Con l G yX6_cutTo cX6_cutTo 2 (some .int) 0 [.int a1, .int a2] σ (some (.int r)) σ :=
  mt_con (by decide) (Nat.le_of_ble_eq_true rfl) (fun K hl hG hQ => by subst hl; subst hG; exact fun _ => vX6_cutTo  hQ h)
theorem dX6_sheet_0 : decode cX6_sheet 0 = .ok (.iload_n 1, 1) := by decide +kernel
theorem dX6_sheet_1 : decode cX6_sheet 1 = .ok (.invokestatic 207, 3) := by decide +kernel
theorem dX6_sheet_4 : decode cX6_sheet 4 = .ok (.ifCond .eq 25, 3) := by decide +kernel
theorem dX6_sheet_7 : decode cX6_sheet 7 = .ok (.iload_n 2, 1) := by decide +kernel
theorem dX6_sheet_8 : decode cX6_sheet 8 = .ok (.ifCond .eq 28, 3) := by decide +kernel
theorem dX6_sheet_11 : decode cX6_sheet 11 = .ok (.iload_n 2, 1) := by decide +kernel
theorem dX6_sheet_12 : decode cX6_sheet 12 = .ok (.bipush 8, 2) := by decide +kernel
theorem dX6_sheet_14 : decode cX6_sheet 14 = .ok (.if_icmp .eq 22, 3) := by decide +kernel
theorem dX6_sheet_17 : decode cX6_sheet 17 = .ok (.iload_n 2, 1) := by decide +kernel
theorem dX6_sheet_18 : decode cX6_sheet 18 = .ok (.bipush 16, 2) := by decide +kernel
theorem dX6_sheet_20 : decode cX6_sheet 20 = .ok (.if_icmp .eq 16, 3) := by decide +kernel
theorem dX6_sheet_23 : decode cX6_sheet 23 = .ok (.iload_n 2, 1) := by decide +kernel
theorem dX6_sheet_24 : decode cX6_sheet 24 = .ok (.bipush 32, 2) := by decide +kernel
theorem dX6_sheet_26 : decode cX6_sheet 26 = .ok (.if_icmp .eq 10, 3) := by decide +kernel
theorem dX6_sheet_29 : decode cX6_sheet 29 = .ok (.aload_n 0, 1) := by decide +kernel
theorem dX6_sheet_30 : decode cX6_sheet 30 = .ok (.ldc 60, 2) := by decide +kernel
theorem dX6_sheet_32 : decode cX6_sheet 32 = .ok (.invokevirtual 66, 3) := by decide +kernel
theorem dX6_sheet_35 : decode cX6_sheet 35 = .ok (.ireturn, 1) := by decide +kernel
theorem dX6_sheet_36 : decode cX6_sheet 36 = .ok (.iload_n 3, 1) := by decide +kernel
theorem dX6_sheet_37 : decode cX6_sheet 37 = .ok (.ifCond .ge 11, 3) := by decide +kernel
theorem dX6_sheet_40 : decode cX6_sheet 40 = .ok (.aload_n 0, 1) := by decide +kernel
theorem dX6_sheet_41 : decode cX6_sheet 41 = .ok (.ldc_w 309, 3) := by decide +kernel
theorem dX6_sheet_44 : decode cX6_sheet 44 = .ok (.invokevirtual 66, 3) := by decide +kernel
theorem dX6_sheet_47 : decode cX6_sheet 47 = .ok (.ireturn, 1) := by decide +kernel
theorem dX6_sheet_48 : decode cX6_sheet 48 = .ok (.iload_n 3, 1) := by decide +kernel
theorem dX6_sheet_49 : decode cX6_sheet 49 = .ok (.bipush 40, 2) := by decide +kernel
theorem dX6_sheet_51 : decode cX6_sheet 51 = .ok (.if_icmp .le 10, 3) := by decide +kernel
theorem dX6_sheet_54 : decode cX6_sheet 54 = .ok (.aload_n 0, 1) := by decide +kernel
theorem dX6_sheet_55 : decode cX6_sheet 55 = .ok (.ldc 60, 2) := by decide +kernel
theorem dX6_sheet_57 : decode cX6_sheet 57 = .ok (.invokevirtual 66, 3) := by decide +kernel
theorem dX6_sheet_60 : decode cX6_sheet 60 = .ok (.ireturn, 1) := by decide +kernel
theorem dX6_sheet_61 : decode cX6_sheet 61 = .ok (.aload_n 0, 1) := by decide +kernel
theorem dX6_sheet_62 : decode cX6_sheet 62 = .ok (.getfield 48, 3) := by decide +kernel
theorem dX6_sheet_65 : decode cX6_sheet 65 = .ok (.iload_n 1, 1) := by decide +kernel
theorem dX6_sheet_66 : decode cX6_sheet 66 = .ok (.iload_n 2, 1) := by decide +kernel
theorem dX6_sheet_67 : decode cX6_sheet 67 = .ok (.iastore, 1) := by decide +kernel
theorem dX6_sheet_68 : decode cX6_sheet 68 = .ok (.aload_n 0, 1) := by decide +kernel
theorem dX6_sheet_69 : decode cX6_sheet 69 = .ok (.getfield 51, 3) := by decide +kernel
theorem dX6_sheet_72 : decode cX6_sheet 72 = .ok (.iload_n 1, 1) := by decide +kernel
theorem dX6_sheet_73 : decode cX6_sheet 73 = .ok (.iload_n 2, 1) := by decide +kernel
theorem dX6_sheet_74 : decode cX6_sheet 74 = .ok (.ifCond .ne 7, 3) := by decide +kernel
theorem dX6_sheet_77 : decode cX6_sheet 77 = .ok (.iconst 0, 1) := by decide +kernel
theorem dX6_sheet_78 : decode cX6_sheet 78 = .ok (.goto 4, 3) := by decide +kernel
theorem dX6_sheet_81 : decode cX6_sheet 81 = .ok (.iload_n 3, 1) := by decide +kernel
theorem dX6_sheet_82 : decode cX6_sheet 82 = .ok (.iastore, 1) := by decide +kernel
theorem dX6_sheet_83 : decode cX6_sheet 83 = .ok (.iconst 0, 1) := by decide +kernel
theorem dX6_sheet_84 : decode cX6_sheet 84 = .ok (.istore 4, 2) := by decide +kernel
theorem dX6_sheet_86 : decode cX6_sheet 86 = .ok (.iload 4, 2) := by decide +kernel
theorem dX6_sheet_88 : decode cX6_sheet 88 = .ok (.bipush 40, 2) := by decide +kernel
theorem dX6_sheet_90 : decode cX6_sheet 90 = .ok (.if_icmp .ge 22, 3) := by decide +kernel
theorem dX6_sheet_93 : decode cX6_sheet 93 = .ok (.aload_n 0, 1) := by decide +kernel
theorem dX6_sheet_94 : decode cX6_sheet 94 = .ok (.getfield 54, 3) := by decide +kernel
theorem dX6_sheet_97 : decode cX6_sheet 97 = .ok (.bipush 40, 2) := by decide +kernel
theorem dX6_sheet_99 : decode cX6_sheet 99 = .ok (.iload_n 1, 1) := by decide +kernel
theorem dX6_sheet_100 : decode cX6_sheet 100 = .ok (.imul, 1) := by decide +kernel
theorem dX6_sheet_101 : decode cX6_sheet 101 = .ok (.iload 4, 2) := by decide +kernel
theorem dX6_sheet_103 : decode cX6_sheet 103 = .ok (.iadd, 1) := by decide +kernel
theorem dX6_sheet_104 : decode cX6_sheet 104 = .ok (.iconst 0, 1) := by decide +kernel
theorem dX6_sheet_105 : decode cX6_sheet 105 = .ok (.iastore, 1) := by decide +kernel
theorem dX6_sheet_106 : decode cX6_sheet 106 = .ok (.iinc 4 1, 3) := by decide +kernel
theorem dX6_sheet_109 : decode cX6_sheet 109 = .ok (.goto (-23), 3) := by decide +kernel
theorem dX6_sheet_112 : decode cX6_sheet 112 = .ok (.aload_n 0, 1) := by decide +kernel
theorem dX6_sheet_113 : decode cX6_sheet 113 = .ok (.getfield 51, 3) := by decide +kernel
theorem dX6_sheet_116 : decode cX6_sheet 116 = .ok (.iload_n 1, 1) := by decide +kernel
theorem dX6_sheet_117 : decode cX6_sheet 117 = .ok (.iaload, 1) := by decide +kernel
theorem dX6_sheet_118 : decode cX6_sheet 118 = .ok (.ireturn, 1) := by decide +kernel
def bX6_sheet_86 (fu : Nat) : Nat → mt_St → Int32 → Int32 → Option (Int32 × mt_St)
  | 0, _, _, _ => none
  | n + 1, σ, x1, x4 =>
    if (40 : Int32) ≤ x4 then
      mt_chk (mt_in x1 4) <|
      some ((σ 65 (Int32.toNatClampNeg x1)), σ)
    else
      mt_chk (mt_in (((40 : Int32) * x1) + x4) 160) <|
      mt_bnd (mt_up σ 66 (Int32.toNatClampNeg (((40 : Int32) * x1) + x4)) (0 : Int32)) fun s1 =>
      bX6_sheet_86 fu n s1 x1 (x4 + 1)
set_option maxHeartbeats 4000000 in
set_option maxRecDepth 20000 in
theorem vX6_sheet_86 {K : mt_C} {fu : Nat} {r : Int32} {σf : mt_St} (hQ : mt_R K (some .int) (some (.int r)) σf) : ∀ (n : Nat) (σ : mt_St) (x1 : Int32) (x4 : Int32), mt_V K cX6_sheet RX6 5 2 σ 86 [(0, .ref (mt_adr (kG K) 56)), (1, .int x1), (4, .int x4)] [] (bX6_sheet_86 fu n σ x1 x4 = some (r, σf)) := by
  intro n
  induction n with
  | zero => intro σ x1 x4; intro hP; unfold bX6_sheet_86 at hP; cases hP
  | succ n ih =>
    intro σ x1 x4
    unfold bX6_sheet_86
    refine mv_iload 2 dX6_sheet_86 rfl ?_
    refine mv_bipush (v := 40) dX6_sheet_88 bp_40 ?_
    refine mv_icmp_ge 112 dX6_sheet_90 (by decide) ?_ ?_
    · refine mv_aload_n 0 dX6_sheet_112 rfl rfl ?_
      refine mg_X6_18 fl_X6_51 dX6_sheet_113 ?_
      refine mv_iload_n 1 dX6_sheet_116 rfl rfl ?_
      refine mv_iald 4 rfl rfl dX6_sheet_117 ?_
      exact mv_iret hQ dX6_sheet_118
    · refine mv_aload_n 0 dX6_sheet_93 rfl rfl ?_
      refine mg_X6_19 fl_X6_54 dX6_sheet_94 ?_
      refine mv_bipush (v := 40) dX6_sheet_97 bp_40 ?_
      refine mv_iload_n 1 dX6_sheet_99 rfl rfl ?_
      refine mv_imul dX6_sheet_100 ?_
      refine mv_iload 2 dX6_sheet_101 rfl ?_
      refine mv_iadd dX6_sheet_103 ?_
      refine mv_iconst (v := 0) dX6_sheet_104 ic_0 ?_
      refine mv_iast 160 rfl rfl dX6_sheet_105 (fun s1 => ?_)
      refine mv_iinc (k0 := 2) (v := x4 + 1) (lv' := [(0, .ref (mt_adr (kG K) 56)), (1, .int x1), (4, .int (x4 + 1))]) [1, 2, 0] dX6_sheet_106 rfl (mt_inc ic_1) (by decide) rfl ?_
      refine mv_goto 86 dX6_sheet_109 (by decide) ?_
      exact ih s1 x1 (x4 + 1)
def bX6_sheet_82 (fu : Nat) (σ : mt_St) (x1 : Int32) (y0 : Int32) (y1 : Int32) : Option (Int32 × mt_St) :=
  mt_chk (mt_in y1 4) <|
  mt_bnd (mt_up σ 65 (Int32.toNatClampNeg y1) y0) fun s1 =>
  bX6_sheet_86 fu fu s1 x1 (0 : Int32)
set_option maxHeartbeats 4000000 in
set_option maxRecDepth 20000 in
theorem vX6_sheet_82 {K : mt_C} {fu : Nat} {r : Int32} {σf : mt_St} (hQ : mt_R K (some .int) (some (.int r)) σf) : ∀ (σ : mt_St) (x1 : Int32) (y0 : Int32) (y1 : Int32), mt_V K cX6_sheet RX6 5 2 σ 82 [(0, .ref (mt_adr (kG K) 56)), (1, .int x1)] [.int y0, .int y1, .ref (mt_adr (kG K) 65)] (bX6_sheet_82 fu σ x1 y0 y1 = some (r, σf)) := by
  intro σ x1 y0 y1
  unfold bX6_sheet_82
  refine mv_iast 4 rfl rfl dX6_sheet_82 (fun s1 => ?_)
  refine mv_iconst (v := 0) dX6_sheet_83 ic_0 ?_
  refine mv_istore (lv' := [(0, .ref (mt_adr (kG K) 56)), (1, .int x1), (4, .int (0 : Int32))]) [1, 2, 0] dX6_sheet_84 (by decide) rfl ?_
  exact vX6_sheet_86 hQ fu s1 x1 (0 : Int32)
def bX6_sheet_36 (fu : Nat) (σ : mt_St) (x1 : Int32) (x2 : Int32) (x3 : Int32) : Option (Int32 × mt_St) :=
  if 0 ≤ x3 then
    if x3 ≤ (40 : Int32) then
      mt_chk (mt_in x1 4) <|
      mt_bnd (mt_up σ 64 (Int32.toNatClampNeg x1) x2) fun s1 =>
      if x2 = 0 then
        bX6_sheet_82 fu s1 x1 (0 : Int32) x1
      else
        bX6_sheet_82 fu s1 x1 x3 x1
    else
      mt_call (fX6_finding fu σ (-1000001 : Int32)) fun r2 s3 =>
      some (r2, s3)
  else
    mt_call (fX6_finding fu σ (-1000007 : Int32)) fun r4 s5 =>
    some (r4, s5)
set_option maxHeartbeats 4000000 in
set_option maxRecDepth 20000 in
theorem vX6_sheet_36 {K : mt_C} {fu : Nat} {r : Int32} {σf : mt_St} (hQ : mt_R K (some .int) (some (.int r)) σf) : ∀ (σ : mt_St) (x1 : Int32) (x2 : Int32) (x3 : Int32), mt_V K cX6_sheet RX6 5 2 σ 36 [(0, .ref (mt_adr (kG K) 56)), (1, .int x1), (2, .int x2), (3, .int x3)] [] (bX6_sheet_36 fu σ x1 x2 x3 = some (r, σf)) := by
  intro σ x1 x2 x3
  unfold bX6_sheet_36
  refine mv_iload_n 3 dX6_sheet_36 rfl rfl ?_
  refine mv_if_ge 48 dX6_sheet_37 (by decide) ?_ ?_
  · refine mv_iload_n 3 dX6_sheet_48 rfl rfl ?_
    refine mv_bipush (v := 40) dX6_sheet_49 bp_40 ?_
    refine mv_icmp_le 61 dX6_sheet_51 (by decide) ?_ ?_
    · refine mv_aload_n 0 dX6_sheet_61 rfl rfl ?_
      refine mg_X6_17 fl_X6_48 dX6_sheet_62 ?_
      refine mv_iload_n 1 dX6_sheet_65 rfl rfl ?_
      refine mv_iload_n 2 dX6_sheet_66 rfl rfl ?_
      refine mv_iast 4 rfl rfl dX6_sheet_67 (fun s1 => ?_)
      refine mv_aload_n 0 dX6_sheet_68 rfl rfl ?_
      refine mg_X6_18 fl_X6_51 dX6_sheet_69 ?_
      refine mv_iload_n 1 dX6_sheet_72 rfl rfl ?_
      refine mv_iload_n 2 dX6_sheet_73 rfl rfl ?_
      refine mv_if_ne 81 dX6_sheet_74 (by decide) ?_ ?_
      · refine mv_iload_n 3 dX6_sheet_81 rfl rfl ?_
        refine mv_sub (lv' := [(0, .ref (mt_adr (kG K) 56)), (1, .int x1)]) [0, 1] rfl ?_
        exact vX6_sheet_82 hQ s1 x1 x3 x1
      · refine mv_iconst (v := 0) dX6_sheet_77 ic_0 ?_
        refine mv_goto 82 dX6_sheet_78 (by decide) ?_
        refine mv_sub (lv' := [(0, .ref (mt_adr (kG K) 56)), (1, .int x1)]) [0, 1] rfl ?_
        exact vX6_sheet_82 hQ s1 x1 (0 : Int32) x1
    · refine mv_aload_n 0 dX6_sheet_54 rfl rfl ?_
      refine mv_ldc kc_X6_60 dX6_sheet_55 ?_
      refine mv_cVwi (As := [.int (-1000001 : Int32)]) (st := []) cal_X6_finding ins_X6_finding ml_X6_66 rfl (by decide) rfl rfl (by decide) rfl (Nat.le_of_ble_eq_true rfl) dX6_sheet_57 (fun r s h => co_X6_finding h) (fun r2 s3 => ?_)
      exact mv_iret hQ dX6_sheet_60
  · refine mv_aload_n 0 dX6_sheet_40 rfl rfl ?_
    refine mv_ldcw kc_X6_309 dX6_sheet_41 ?_
    refine mv_cVwi (As := [.int (-1000007 : Int32)]) (st := []) cal_X6_finding ins_X6_finding ml_X6_66 rfl (by decide) rfl rfl (by decide) rfl (Nat.le_of_ble_eq_true rfl) dX6_sheet_44 (fun r s h => co_X6_finding h) (fun r4 s5 => ?_)
    exact mv_iret hQ dX6_sheet_47
def bX6_sheet_29 (fu : Nat) (σ : mt_St) : Option (Int32 × mt_St) :=
  mt_call (fX6_finding fu σ (-1000001 : Int32)) fun r1 s2 =>
  some (r1, s2)
set_option maxHeartbeats 4000000 in
set_option maxRecDepth 20000 in
theorem vX6_sheet_29 {K : mt_C} {fu : Nat} {r : Int32} {σf : mt_St} (hQ : mt_R K (some .int) (some (.int r)) σf) : ∀ (σ : mt_St), mt_V K cX6_sheet RX6 5 2 σ 29 [(0, .ref (mt_adr (kG K) 56))] [] (bX6_sheet_29 fu σ = some (r, σf)) := by
  intro σ
  unfold bX6_sheet_29
  refine mv_aload_n 0 dX6_sheet_29 rfl rfl ?_
  refine mv_ldc kc_X6_60 dX6_sheet_30 ?_
  refine mv_cVwi (As := [.int (-1000001 : Int32)]) (st := []) cal_X6_finding ins_X6_finding ml_X6_66 rfl (by decide) rfl rfl (by decide) rfl (Nat.le_of_ble_eq_true rfl) dX6_sheet_32 (fun r s h => co_X6_finding h) (fun r1 s2 => ?_)
  exact mv_iret hQ dX6_sheet_35
def fX6_sheet (fu : Nat) (σ : mt_St) (a1 : Int32) (a2 : Int32) (a3 : Int32) : Option (Int32 × mt_St) :=
  mt_ask (fX6_isSheet fu a1) fun r1 =>
  if r1 = 0 then
    bX6_sheet_29 fu σ
  else
    if a2 = 0 then
      bX6_sheet_36 fu σ a1 a2 a3
    else
      if a2 = (8 : Int32) then
        bX6_sheet_36 fu σ a1 a2 a3
      else
        if a2 = (16 : Int32) then
          bX6_sheet_36 fu σ a1 a2 a3
        else
          if a2 = (32 : Int32) then
            bX6_sheet_36 fu σ a1 a2 a3
          else
            bX6_sheet_29 fu σ
set_option maxHeartbeats 4000000 in
set_option maxRecDepth 20000 in
theorem vX6_sheet {K : mt_C} {fu : Nat} {σ : mt_St} {a1 : Int32} {a2 : Int32} {a3 : Int32} {r : Int32} {σf : mt_St} (hQ : mt_R K (some .int) (some (.int r)) σf) : mt_V K cX6_sheet RX6 5 2 σ 0 [(0, .ref (mt_adr (kG K) 56)), (1, .int a1), (2, .int a2), (3, .int a3)] [] (fX6_sheet fu σ a1 a2 a3 = some (r, σf)) := by
  unfold fX6_sheet
  refine mv_iload_n 1 dX6_sheet_0 rfl rfl ?_
  refine mv_cSri (As := [.int a1]) (st := []) cal_X6_isSheet sta_X6_isSheet ml_X6_207 rfl (by decide) rfl (Nat.le_of_ble_eq_true rfl) dX6_sheet_1 (fun r h => co_X6_isSheet h) (fun r1 => ?_)
  refine mv_if_eq 29 dX6_sheet_4 (by decide) ?_ ?_
  · refine mv_sub (lv' := [(0, .ref (mt_adr (kG K) 56))]) [0] rfl ?_
    exact vX6_sheet_29 hQ σ
  · refine mv_iload_n 2 dX6_sheet_7 rfl rfl ?_
    refine mv_if_eq 36 dX6_sheet_8 (by decide) ?_ ?_
    · exact vX6_sheet_36 hQ σ a1 a2 a3
    · refine mv_iload_n 2 dX6_sheet_11 rfl rfl ?_
      refine mv_bipush (v := 8) dX6_sheet_12 bp_8 ?_
      refine mv_icmp_eq 36 dX6_sheet_14 (by decide) ?_ ?_
      · exact vX6_sheet_36 hQ σ a1 a2 a3
      · refine mv_iload_n 2 dX6_sheet_17 rfl rfl ?_
        refine mv_bipush (v := 16) dX6_sheet_18 bp_16 ?_
        refine mv_icmp_eq 36 dX6_sheet_20 (by decide) ?_ ?_
        · exact vX6_sheet_36 hQ σ a1 a2 a3
        · refine mv_iload_n 2 dX6_sheet_23 rfl rfl ?_
          refine mv_bipush (v := 32) dX6_sheet_24 bp_32 ?_
          refine mv_icmp_eq 36 dX6_sheet_26 (by decide) ?_ ?_
          · exact vX6_sheet_36 hQ σ a1 a2 a3
          · refine mv_sub (lv' := [(0, .ref (mt_adr (kG K) 56))]) [0] rfl ?_
            exact vX6_sheet_29 hQ σ
theorem co_X6_sheet {l : Launch} {G : mt_G} {fu : Nat} {σ : mt_St} {a1 : Int32} {a2 : Int32} {a3 : Int32} {r : Int32} {σf : mt_St}  (h : fX6_sheet fu σ a1 a2 a3 = some (r, σf)) : mt_Con l G yX6_sheet cX6_sheet 5 (some .int) 2 [.ref (mt_adr G 56), .int a1, .int a2, .int a3] σ (some (.int r)) σf :=
  mt_con (by decide) (Nat.le_of_ble_eq_true rfl) (fun K hl hG hQ => by subst hl; subst hG; exact fun _ => vX6_sheet  hQ h)
theorem dX6_write_0 : decode cX6_write 0 = .ok (.iload_n 1, 1) := by decide +kernel
theorem dX6_write_1 : decode cX6_write 1 = .ok (.invokestatic 207, 3) := by decide +kernel
theorem dX6_write_4 : decode cX6_write 4 = .ok (.ifCond .ne 10, 3) := by decide +kernel
theorem dX6_write_7 : decode cX6_write 7 = .ok (.aload_n 0, 1) := by decide +kernel
theorem dX6_write_8 : decode cX6_write 8 = .ok (.ldc 60, 2) := by decide +kernel
theorem dX6_write_10 : decode cX6_write 10 = .ok (.invokevirtual 66, 3) := by decide +kernel
theorem dX6_write_13 : decode cX6_write 13 = .ok (.ireturn, 1) := by decide +kernel
theorem dX6_write_14 : decode cX6_write 14 = .ok (.aload_n 0, 1) := by decide +kernel
theorem dX6_write_15 : decode cX6_write 15 = .ok (.getfield 48, 3) := by decide +kernel
theorem dX6_write_18 : decode cX6_write 18 = .ok (.iload_n 1, 1) := by decide +kernel
theorem dX6_write_19 : decode cX6_write 19 = .ok (.iaload, 1) := by decide +kernel
theorem dX6_write_20 : decode cX6_write 20 = .ok (.ifCond .ne 10, 3) := by decide +kernel
theorem dX6_write_23 : decode cX6_write 23 = .ok (.aload_n 0, 1) := by decide +kernel
theorem dX6_write_24 : decode cX6_write 24 = .ok (.ldc 210, 2) := by decide +kernel
theorem dX6_write_26 : decode cX6_write 26 = .ok (.invokevirtual 66, 3) := by decide +kernel
theorem dX6_write_29 : decode cX6_write 29 = .ok (.ireturn, 1) := by decide +kernel
theorem dX6_write_30 : decode cX6_write 30 = .ok (.iload_n 2, 1) := by decide +kernel
theorem dX6_write_31 : decode cX6_write 31 = .ok (.iconst 0, 1) := by decide +kernel
theorem dX6_write_32 : decode cX6_write 32 = .ok (.aload_n 0, 1) := by decide +kernel
theorem dX6_write_33 : decode cX6_write 33 = .ok (.getfield 51, 3) := by decide +kernel
theorem dX6_write_36 : decode cX6_write 36 = .ok (.iload_n 1, 1) := by decide +kernel
theorem dX6_write_37 : decode cX6_write 37 = .ok (.iaload, 1) := by decide +kernel
theorem dX6_write_38 : decode cX6_write 38 = .ok (.iconst 1, 1) := by decide +kernel
theorem dX6_write_39 : decode cX6_write 39 = .ok (.isub, 1) := by decide +kernel
theorem dX6_write_40 : decode cX6_write 40 = .ok (.invokestatic 70, 3) := by decide +kernel
theorem dX6_write_43 : decode cX6_write 43 = .ok (.ifCond .ne 10, 3) := by decide +kernel
theorem dX6_write_46 : decode cX6_write 46 = .ok (.aload_n 0, 1) := by decide +kernel
theorem dX6_write_47 : decode cX6_write 47 = .ok (.ldc 60, 2) := by decide +kernel
theorem dX6_write_49 : decode cX6_write 49 = .ok (.invokevirtual 66, 3) := by decide +kernel
theorem dX6_write_52 : decode cX6_write 52 = .ok (.ireturn, 1) := by decide +kernel
theorem dX6_write_53 : decode cX6_write 53 = .ok (.aload_n 0, 1) := by decide +kernel
theorem dX6_write_54 : decode cX6_write 54 = .ok (.getfield 54, 3) := by decide +kernel
theorem dX6_write_57 : decode cX6_write 57 = .ok (.bipush 40, 2) := by decide +kernel
theorem dX6_write_59 : decode cX6_write 59 = .ok (.iload_n 1, 1) := by decide +kernel
theorem dX6_write_60 : decode cX6_write 60 = .ok (.imul, 1) := by decide +kernel
theorem dX6_write_61 : decode cX6_write 61 = .ok (.iload_n 2, 1) := by decide +kernel
theorem dX6_write_62 : decode cX6_write 62 = .ok (.iadd, 1) := by decide +kernel
theorem dX6_write_63 : decode cX6_write 63 = .ok (.iload_n 3, 1) := by decide +kernel
theorem dX6_write_64 : decode cX6_write 64 = .ok (.aload_n 0, 1) := by decide +kernel
theorem dX6_write_65 : decode cX6_write 65 = .ok (.getfield 48, 3) := by decide +kernel
theorem dX6_write_68 : decode cX6_write 68 = .ok (.iload_n 1, 1) := by decide +kernel
theorem dX6_write_69 : decode cX6_write 69 = .ok (.iaload, 1) := by decide +kernel
theorem dX6_write_70 : decode cX6_write 70 = .ok (.invokestatic 310, 3) := by decide +kernel
theorem dX6_write_73 : decode cX6_write 73 = .ok (.iastore, 1) := by decide +kernel
theorem dX6_write_74 : decode cX6_write 74 = .ok (.iconst 1, 1) := by decide +kernel
theorem dX6_write_75 : decode cX6_write 75 = .ok (.ireturn, 1) := by decide +kernel
def fX6_write (fu : Nat) (σ : mt_St) (a1 : Int32) (a2 : Int32) (a3 : Int32) : Option (Int32 × mt_St) :=
  mt_ask (fX6_isSheet fu a1) fun r1 =>
  if r1 = 0 then
    mt_call (fX6_finding fu σ (-1000001 : Int32)) fun r9 s10 =>
    some (r9, s10)
  else
    mt_chk (mt_in a1 4) <|
    if (σ 64 (Int32.toNatClampNeg a1)) = 0 then
      mt_call (fX6_finding fu σ (-1000006 : Int32)) fun r7 s8 =>
      some (r7, s8)
    else
      mt_chk (mt_in a1 4) <|
      mt_ask (fX6_within fu a2 (0 : Int32) ((σ 65 (Int32.toNatClampNeg a1)) - (1 : Int32))) fun r2 =>
      if r2 = 0 then
        mt_call (fX6_finding fu σ (-1000001 : Int32)) fun r5 s6 =>
        some (r5, s6)
      else
        mt_chk (mt_in a1 4) <|
        mt_ask (fX6_cutTo fu a3 (σ 64 (Int32.toNatClampNeg a1))) fun r3 =>
        mt_chk (mt_in (((40 : Int32) * a1) + a2) 160) <|
        mt_bnd (mt_up σ 66 (Int32.toNatClampNeg (((40 : Int32) * a1) + a2)) r3) fun s4 =>
        some ((1 : Int32), s4)
set_option maxHeartbeats 4000000 in
set_option maxRecDepth 20000 in
theorem vX6_write {K : mt_C} {fu : Nat} {σ : mt_St} {a1 : Int32} {a2 : Int32} {a3 : Int32} {r : Int32} {σf : mt_St} (hQ : mt_R K (some .int) (some (.int r)) σf) : mt_V K cX6_write RX6 4 2 σ 0 [(0, .ref (mt_adr (kG K) 56)), (1, .int a1), (2, .int a2), (3, .int a3)] [] (fX6_write fu σ a1 a2 a3 = some (r, σf)) := by
  unfold fX6_write
  refine mv_iload_n 1 dX6_write_0 rfl rfl ?_
  refine mv_cSri (As := [.int a1]) (st := []) cal_X6_isSheet sta_X6_isSheet ml_X6_207 rfl (by decide) rfl (Nat.le_of_ble_eq_true rfl) dX6_write_1 (fun r h => co_X6_isSheet h) (fun r1 => ?_)
  refine mv_if_ne 14 dX6_write_4 (by decide) ?_ ?_
  · refine mv_aload_n 0 dX6_write_14 rfl rfl ?_
    refine mg_X6_17 fl_X6_48 dX6_write_15 ?_
    refine mv_iload_n 1 dX6_write_18 rfl rfl ?_
    refine mv_iald 4 rfl rfl dX6_write_19 ?_
    refine mv_if_ne 30 dX6_write_20 (by decide) ?_ ?_
    · refine mv_iload_n 2 dX6_write_30 rfl rfl ?_
      refine mv_iconst (v := 0) dX6_write_31 ic_0 ?_
      refine mv_aload_n 0 dX6_write_32 rfl rfl ?_
      refine mg_X6_18 fl_X6_51 dX6_write_33 ?_
      refine mv_iload_n 1 dX6_write_36 rfl rfl ?_
      refine mv_iald 4 rfl rfl dX6_write_37 ?_
      refine mv_iconst (v := 1) dX6_write_38 ic_1 ?_
      refine mv_isub dX6_write_39 ?_
      refine mv_cSri (As := [.int a2, .int (0 : Int32), .int ((σ 65 (Int32.toNatClampNeg a1)) - (1 : Int32))]) (st := []) cal_X6_within sta_X6_within ml_X6_70 rfl (by decide) rfl (Nat.le_of_ble_eq_true rfl) dX6_write_40 (fun r h => co_X6_within h) (fun r2 => ?_)
      refine mv_if_ne 53 dX6_write_43 (by decide) ?_ ?_
      · refine mv_aload_n 0 dX6_write_53 rfl rfl ?_
        refine mg_X6_19 fl_X6_54 dX6_write_54 ?_
        refine mv_bipush (v := 40) dX6_write_57 bp_40 ?_
        refine mv_iload_n 1 dX6_write_59 rfl rfl ?_
        refine mv_imul dX6_write_60 ?_
        refine mv_iload_n 2 dX6_write_61 rfl rfl ?_
        refine mv_iadd dX6_write_62 ?_
        refine mv_iload_n 3 dX6_write_63 rfl rfl ?_
        refine mv_aload_n 0 dX6_write_64 rfl rfl ?_
        refine mg_X6_17 fl_X6_48 dX6_write_65 ?_
        refine mv_iload_n 1 dX6_write_68 rfl rfl ?_
        refine mv_iald 4 rfl rfl dX6_write_69 ?_
        refine mv_cSri (As := [.int a3, .int (σ 64 (Int32.toNatClampNeg a1))]) (st := [.int (((40 : Int32) * a1) + a2), .ref (mt_adr (kG K) 66)]) cal_X6_cutTo sta_X6_cutTo ml_X6_310 rfl (by decide) rfl (Nat.le_of_ble_eq_true rfl) dX6_write_70 (fun r h => co_X6_cutTo h) (fun r3 => ?_)
        refine mv_iast 160 rfl rfl dX6_write_73 (fun s4 => ?_)
        refine mv_iconst (v := 1) dX6_write_74 ic_1 ?_
        exact mv_iret hQ dX6_write_75
      · refine mv_aload_n 0 dX6_write_46 rfl rfl ?_
        refine mv_ldc kc_X6_60 dX6_write_47 ?_
        refine mv_cVwi (As := [.int (-1000001 : Int32)]) (st := []) cal_X6_finding ins_X6_finding ml_X6_66 rfl (by decide) rfl rfl (by decide) rfl (Nat.le_of_ble_eq_true rfl) dX6_write_49 (fun r s h => co_X6_finding h) (fun r5 s6 => ?_)
        exact mv_iret hQ dX6_write_52
    · refine mv_aload_n 0 dX6_write_23 rfl rfl ?_
      refine mv_ldc kc_X6_210 dX6_write_24 ?_
      refine mv_cVwi (As := [.int (-1000006 : Int32)]) (st := []) cal_X6_finding ins_X6_finding ml_X6_66 rfl (by decide) rfl rfl (by decide) rfl (Nat.le_of_ble_eq_true rfl) dX6_write_26 (fun r s h => co_X6_finding h) (fun r7 s8 => ?_)
      exact mv_iret hQ dX6_write_29
  · refine mv_aload_n 0 dX6_write_7 rfl rfl ?_
    refine mv_ldc kc_X6_60 dX6_write_8 ?_
    refine mv_cVwi (As := [.int (-1000001 : Int32)]) (st := []) cal_X6_finding ins_X6_finding ml_X6_66 rfl (by decide) rfl rfl (by decide) rfl (Nat.le_of_ble_eq_true rfl) dX6_write_10 (fun r s h => co_X6_finding h) (fun r9 s10 => ?_)
    exact mv_iret hQ dX6_write_13
theorem co_X6_write {l : Launch} {G : mt_G} {fu : Nat} {σ : mt_St} {a1 : Int32} {a2 : Int32} {a3 : Int32} {r : Int32} {σf : mt_St}  (h : fX6_write fu σ a1 a2 a3 = some (r, σf)) : mt_Con l G yX6_write cX6_write 4 (some .int) 2 [.ref (mt_adr G 56), .int a1, .int a2, .int a3] σ (some (.int r)) σf :=
  mt_con (by decide) (Nat.le_of_ble_eq_true rfl) (fun K hl hG hQ => by subst hl; subst hG; exact fun _ => vX6_write  hQ h)
theorem dX6_copy_0 : decode cX6_copy 0 = .ok (.iload_n 1, 1) := by decide +kernel
theorem dX6_copy_1 : decode cX6_copy 1 = .ok (.invokestatic 207, 3) := by decide +kernel
theorem dX6_copy_4 : decode cX6_copy 4 = .ok (.ifCond .eq 10, 3) := by decide +kernel
theorem dX6_copy_7 : decode cX6_copy 7 = .ok (.iload_n 3, 1) := by decide +kernel
theorem dX6_copy_8 : decode cX6_copy 8 = .ok (.invokestatic 207, 3) := by decide +kernel
theorem dX6_copy_11 : decode cX6_copy 11 = .ok (.ifCond .ne 10, 3) := by decide +kernel
theorem dX6_copy_14 : decode cX6_copy 14 = .ok (.aload_n 0, 1) := by decide +kernel
theorem dX6_copy_15 : decode cX6_copy 15 = .ok (.ldc 60, 2) := by decide +kernel
theorem dX6_copy_17 : decode cX6_copy 17 = .ok (.invokevirtual 66, 3) := by decide +kernel
theorem dX6_copy_20 : decode cX6_copy 20 = .ok (.ireturn, 1) := by decide +kernel
theorem dX6_copy_21 : decode cX6_copy 21 = .ok (.aload_n 0, 1) := by decide +kernel
theorem dX6_copy_22 : decode cX6_copy 22 = .ok (.getfield 48, 3) := by decide +kernel
theorem dX6_copy_25 : decode cX6_copy 25 = .ok (.iload_n 1, 1) := by decide +kernel
theorem dX6_copy_26 : decode cX6_copy 26 = .ok (.iaload, 1) := by decide +kernel
theorem dX6_copy_27 : decode cX6_copy 27 = .ok (.ifCond .eq 12, 3) := by decide +kernel
theorem dX6_copy_30 : decode cX6_copy 30 = .ok (.aload_n 0, 1) := by decide +kernel
theorem dX6_copy_31 : decode cX6_copy 31 = .ok (.getfield 48, 3) := by decide +kernel
theorem dX6_copy_34 : decode cX6_copy 34 = .ok (.iload_n 3, 1) := by decide +kernel
theorem dX6_copy_35 : decode cX6_copy 35 = .ok (.iaload, 1) := by decide +kernel
theorem dX6_copy_36 : decode cX6_copy 36 = .ok (.ifCond .ne 10, 3) := by decide +kernel
theorem dX6_copy_39 : decode cX6_copy 39 = .ok (.aload_n 0, 1) := by decide +kernel
theorem dX6_copy_40 : decode cX6_copy 40 = .ok (.ldc 210, 2) := by decide +kernel
theorem dX6_copy_42 : decode cX6_copy 42 = .ok (.invokevirtual 66, 3) := by decide +kernel
theorem dX6_copy_45 : decode cX6_copy 45 = .ok (.ireturn, 1) := by decide +kernel
theorem dX6_copy_46 : decode cX6_copy 46 = .ok (.aload_n 0, 1) := by decide +kernel
theorem dX6_copy_47 : decode cX6_copy 47 = .ok (.getfield 48, 3) := by decide +kernel
theorem dX6_copy_50 : decode cX6_copy 50 = .ok (.iload_n 1, 1) := by decide +kernel
theorem dX6_copy_51 : decode cX6_copy 51 = .ok (.iaload, 1) := by decide +kernel
theorem dX6_copy_52 : decode cX6_copy 52 = .ok (.aload_n 0, 1) := by decide +kernel
theorem dX6_copy_53 : decode cX6_copy 53 = .ok (.getfield 48, 3) := by decide +kernel
theorem dX6_copy_56 : decode cX6_copy 56 = .ok (.iload_n 3, 1) := by decide +kernel
theorem dX6_copy_57 : decode cX6_copy 57 = .ok (.iaload, 1) := by decide +kernel
theorem dX6_copy_58 : decode cX6_copy 58 = .ok (.if_icmp .eq 11, 3) := by decide +kernel
theorem dX6_copy_61 : decode cX6_copy 61 = .ok (.aload_n 0, 1) := by decide +kernel
theorem dX6_copy_62 : decode cX6_copy 62 = .ok (.ldc_w 308, 3) := by decide +kernel
theorem dX6_copy_65 : decode cX6_copy 65 = .ok (.invokevirtual 66, 3) := by decide +kernel
theorem dX6_copy_68 : decode cX6_copy 68 = .ok (.ireturn, 1) := by decide +kernel
theorem dX6_copy_69 : decode cX6_copy 69 = .ok (.iload_n 2, 1) := by decide +kernel
theorem dX6_copy_70 : decode cX6_copy 70 = .ok (.ifCond .lt 48, 3) := by decide +kernel
theorem dX6_copy_73 : decode cX6_copy 73 = .ok (.iload 4, 2) := by decide +kernel
theorem dX6_copy_75 : decode cX6_copy 75 = .ok (.ifCond .lt 43, 3) := by decide +kernel
theorem dX6_copy_78 : decode cX6_copy 78 = .ok (.iload 5, 2) := by decide +kernel
theorem dX6_copy_80 : decode cX6_copy 80 = .ok (.ifCond .lt 38, 3) := by decide +kernel
theorem dX6_copy_83 : decode cX6_copy 83 = .ok (.iload_n 2, 1) := by decide +kernel
theorem dX6_copy_84 : decode cX6_copy 84 = .ok (.i2l, 1) := by decide +kernel
theorem dX6_copy_85 : decode cX6_copy 85 = .ok (.iload 5, 2) := by decide +kernel
theorem dX6_copy_87 : decode cX6_copy 87 = .ok (.i2l, 1) := by decide +kernel
theorem dX6_copy_88 : decode cX6_copy 88 = .ok (.ladd, 1) := by decide +kernel
theorem dX6_copy_89 : decode cX6_copy 89 = .ok (.aload_n 0, 1) := by decide +kernel
theorem dX6_copy_90 : decode cX6_copy 90 = .ok (.getfield 51, 3) := by decide +kernel
theorem dX6_copy_93 : decode cX6_copy 93 = .ok (.iload_n 1, 1) := by decide +kernel
theorem dX6_copy_94 : decode cX6_copy 94 = .ok (.iaload, 1) := by decide +kernel
theorem dX6_copy_95 : decode cX6_copy 95 = .ok (.i2l, 1) := by decide +kernel
theorem dX6_copy_96 : decode cX6_copy 96 = .ok (.lcmp, 1) := by decide +kernel
theorem dX6_copy_97 : decode cX6_copy 97 = .ok (.ifCond .gt 21, 3) := by decide +kernel
theorem dX6_copy_100 : decode cX6_copy 100 = .ok (.iload 4, 2) := by decide +kernel
theorem dX6_copy_102 : decode cX6_copy 102 = .ok (.i2l, 1) := by decide +kernel
theorem dX6_copy_103 : decode cX6_copy 103 = .ok (.iload 5, 2) := by decide +kernel
theorem dX6_copy_105 : decode cX6_copy 105 = .ok (.i2l, 1) := by decide +kernel
theorem dX6_copy_106 : decode cX6_copy 106 = .ok (.ladd, 1) := by decide +kernel
theorem dX6_copy_107 : decode cX6_copy 107 = .ok (.aload_n 0, 1) := by decide +kernel
theorem dX6_copy_108 : decode cX6_copy 108 = .ok (.getfield 51, 3) := by decide +kernel
theorem dX6_copy_111 : decode cX6_copy 111 = .ok (.iload_n 3, 1) := by decide +kernel
theorem dX6_copy_112 : decode cX6_copy 112 = .ok (.iaload, 1) := by decide +kernel
theorem dX6_copy_113 : decode cX6_copy 113 = .ok (.i2l, 1) := by decide +kernel
theorem dX6_copy_114 : decode cX6_copy 114 = .ok (.lcmp, 1) := by decide +kernel
theorem dX6_copy_115 : decode cX6_copy 115 = .ok (.ifCond .le 10, 3) := by decide +kernel
theorem dX6_copy_118 : decode cX6_copy 118 = .ok (.aload_n 0, 1) := by decide +kernel
theorem dX6_copy_119 : decode cX6_copy 119 = .ok (.ldc 60, 2) := by decide +kernel
theorem dX6_copy_121 : decode cX6_copy 121 = .ok (.invokevirtual 66, 3) := by decide +kernel
theorem dX6_copy_124 : decode cX6_copy 124 = .ok (.ireturn, 1) := by decide +kernel
theorem dX6_copy_125 : decode cX6_copy 125 = .ok (.iconst 0, 1) := by decide +kernel
theorem dX6_copy_126 : decode cX6_copy 126 = .ok (.istore 6, 2) := by decide +kernel
theorem dX6_copy_128 : decode cX6_copy 128 = .ok (.iload 6, 2) := by decide +kernel
theorem dX6_copy_130 : decode cX6_copy 130 = .ok (.iload 5, 2) := by decide +kernel
theorem dX6_copy_132 : decode cX6_copy 132 = .ok (.if_icmp .ge 30, 3) := by decide +kernel
theorem dX6_copy_135 : decode cX6_copy 135 = .ok (.aload_n 0, 1) := by decide +kernel
theorem dX6_copy_136 : decode cX6_copy 136 = .ok (.getfield 57, 3) := by decide +kernel
theorem dX6_copy_139 : decode cX6_copy 139 = .ok (.iload 6, 2) := by decide +kernel
theorem dX6_copy_141 : decode cX6_copy 141 = .ok (.aload_n 0, 1) := by decide +kernel
theorem dX6_copy_142 : decode cX6_copy 142 = .ok (.getfield 54, 3) := by decide +kernel
theorem dX6_copy_145 : decode cX6_copy 145 = .ok (.bipush 40, 2) := by decide +kernel
theorem dX6_copy_147 : decode cX6_copy 147 = .ok (.iload_n 1, 1) := by decide +kernel
theorem dX6_copy_148 : decode cX6_copy 148 = .ok (.imul, 1) := by decide +kernel
theorem dX6_copy_149 : decode cX6_copy 149 = .ok (.iload_n 2, 1) := by decide +kernel
theorem dX6_copy_150 : decode cX6_copy 150 = .ok (.iadd, 1) := by decide +kernel
theorem dX6_copy_151 : decode cX6_copy 151 = .ok (.iload 6, 2) := by decide +kernel
theorem dX6_copy_153 : decode cX6_copy 153 = .ok (.iadd, 1) := by decide +kernel
theorem dX6_copy_154 : decode cX6_copy 154 = .ok (.iaload, 1) := by decide +kernel
theorem dX6_copy_155 : decode cX6_copy 155 = .ok (.iastore, 1) := by decide +kernel
theorem dX6_copy_156 : decode cX6_copy 156 = .ok (.iinc 6 1, 3) := by decide +kernel
theorem dX6_copy_159 : decode cX6_copy 159 = .ok (.goto (-31), 3) := by decide +kernel
theorem dX6_copy_162 : decode cX6_copy 162 = .ok (.iconst 0, 1) := by decide +kernel
theorem dX6_copy_163 : decode cX6_copy 163 = .ok (.istore 6, 2) := by decide +kernel
theorem dX6_copy_165 : decode cX6_copy 165 = .ok (.iload 6, 2) := by decide +kernel
theorem dX6_copy_167 : decode cX6_copy 167 = .ok (.iload 5, 2) := by decide +kernel
theorem dX6_copy_169 : decode cX6_copy 169 = .ok (.if_icmp .ge 31, 3) := by decide +kernel
theorem dX6_copy_172 : decode cX6_copy 172 = .ok (.aload_n 0, 1) := by decide +kernel
theorem dX6_copy_173 : decode cX6_copy 173 = .ok (.getfield 54, 3) := by decide +kernel
theorem dX6_copy_176 : decode cX6_copy 176 = .ok (.bipush 40, 2) := by decide +kernel
theorem dX6_copy_178 : decode cX6_copy 178 = .ok (.iload_n 3, 1) := by decide +kernel
theorem dX6_copy_179 : decode cX6_copy 179 = .ok (.imul, 1) := by decide +kernel
theorem dX6_copy_180 : decode cX6_copy 180 = .ok (.iload 4, 2) := by decide +kernel
theorem dX6_copy_182 : decode cX6_copy 182 = .ok (.iadd, 1) := by decide +kernel
theorem dX6_copy_183 : decode cX6_copy 183 = .ok (.iload 6, 2) := by decide +kernel
theorem dX6_copy_185 : decode cX6_copy 185 = .ok (.iadd, 1) := by decide +kernel
theorem dX6_copy_186 : decode cX6_copy 186 = .ok (.aload_n 0, 1) := by decide +kernel
theorem dX6_copy_187 : decode cX6_copy 187 = .ok (.getfield 57, 3) := by decide +kernel
theorem dX6_copy_190 : decode cX6_copy 190 = .ok (.iload 6, 2) := by decide +kernel
theorem dX6_copy_192 : decode cX6_copy 192 = .ok (.iaload, 1) := by decide +kernel
theorem dX6_copy_193 : decode cX6_copy 193 = .ok (.iastore, 1) := by decide +kernel
theorem dX6_copy_194 : decode cX6_copy 194 = .ok (.iinc 6 1, 3) := by decide +kernel
theorem dX6_copy_197 : decode cX6_copy 197 = .ok (.goto (-32), 3) := by decide +kernel
theorem dX6_copy_200 : decode cX6_copy 200 = .ok (.iload 5, 2) := by decide +kernel
theorem dX6_copy_202 : decode cX6_copy 202 = .ok (.ireturn, 1) := by decide +kernel
def bX6_copy_165 (fu : Nat) : Nat → mt_St → Int32 → Int32 → Int32 → Int32 → Option (Int32 × mt_St)
  | 0, _, _, _, _, _ => none
  | n + 1, σ, x3, x4, x5, x6 =>
    if x5 ≤ x6 then
      some (x5, σ)
    else
      mt_chk (mt_in x6 40) <|
      mt_chk (mt_in ((((40 : Int32) * x3) + x4) + x6) 160) <|
      mt_bnd (mt_up σ 66 (Int32.toNatClampNeg ((((40 : Int32) * x3) + x4) + x6)) (σ 67 (Int32.toNatClampNeg x6))) fun s1 =>
      bX6_copy_165 fu n s1 x3 x4 x5 (x6 + 1)
set_option maxHeartbeats 4000000 in
set_option maxRecDepth 20000 in
theorem vX6_copy_165 {K : mt_C} {fu : Nat} {r : Int32} {σf : mt_St} (hQ : mt_R K (some .int) (some (.int r)) σf) : ∀ (n : Nat) (σ : mt_St) (x3 : Int32) (x4 : Int32) (x5 : Int32) (x6 : Int32), mt_V K cX6_copy RX6 7 2 σ 165 [(0, .ref (mt_adr (kG K) 56)), (3, .int x3), (4, .int x4), (5, .int x5), (6, .int x6)] [] (bX6_copy_165 fu n σ x3 x4 x5 x6 = some (r, σf)) := by
  intro n
  induction n with
  | zero => intro σ x3 x4 x5 x6; intro hP; unfold bX6_copy_165 at hP; cases hP
  | succ n ih =>
    intro σ x3 x4 x5 x6
    unfold bX6_copy_165
    refine mv_iload 4 dX6_copy_165 rfl ?_
    refine mv_iload 3 dX6_copy_167 rfl ?_
    refine mv_icmp_ge 200 dX6_copy_169 (by decide) ?_ ?_
    · refine mv_iload 3 dX6_copy_200 rfl ?_
      exact mv_iret hQ dX6_copy_202
    · refine mv_aload_n 0 dX6_copy_172 rfl rfl ?_
      refine mg_X6_19 fl_X6_54 dX6_copy_173 ?_
      refine mv_bipush (v := 40) dX6_copy_176 bp_40 ?_
      refine mv_iload_n 1 dX6_copy_178 rfl rfl ?_
      refine mv_imul dX6_copy_179 ?_
      refine mv_iload 2 dX6_copy_180 rfl ?_
      refine mv_iadd dX6_copy_182 ?_
      refine mv_iload 4 dX6_copy_183 rfl ?_
      refine mv_iadd dX6_copy_185 ?_
      refine mv_aload_n 0 dX6_copy_186 rfl rfl ?_
      refine mg_X6_20 fl_X6_57 dX6_copy_187 ?_
      refine mv_iload 4 dX6_copy_190 rfl ?_
      refine mv_iald 40 rfl rfl dX6_copy_192 ?_
      refine mv_iast 160 rfl rfl dX6_copy_193 (fun s1 => ?_)
      refine mv_iinc (k0 := 4) (v := x6 + 1) (lv' := [(0, .ref (mt_adr (kG K) 56)), (3, .int x3), (4, .int x4), (5, .int x5), (6, .int (x6 + 1))]) [1, 2, 3, 4, 0] dX6_copy_194 rfl (mt_inc ic_1) (by decide) rfl ?_
      refine mv_goto 165 dX6_copy_197 (by decide) ?_
      exact ih s1 x3 x4 x5 (x6 + 1)
def bX6_copy_128 (fu : Nat) : Nat → mt_St → Int32 → Int32 → Int32 → Int32 → Int32 → Int32 → Option (Int32 × mt_St)
  | 0, _, _, _, _, _, _, _ => none
  | n + 1, σ, x1, x2, x3, x4, x5, x6 =>
    if x5 ≤ x6 then
      bX6_copy_165 fu fu σ x3 x4 x5 (0 : Int32)
    else
      mt_chk (mt_in ((((40 : Int32) * x1) + x2) + x6) 160) <|
      mt_chk (mt_in x6 40) <|
      mt_bnd (mt_up σ 67 (Int32.toNatClampNeg x6) (σ 66 (Int32.toNatClampNeg ((((40 : Int32) * x1) + x2) + x6)))) fun s1 =>
      bX6_copy_128 fu n s1 x1 x2 x3 x4 x5 (x6 + 1)
set_option maxHeartbeats 4000000 in
set_option maxRecDepth 20000 in
theorem vX6_copy_128 {K : mt_C} {fu : Nat} {r : Int32} {σf : mt_St} (hQ : mt_R K (some .int) (some (.int r)) σf) : ∀ (n : Nat) (σ : mt_St) (x1 : Int32) (x2 : Int32) (x3 : Int32) (x4 : Int32) (x5 : Int32) (x6 : Int32), mt_V K cX6_copy RX6 7 2 σ 128 [(0, .ref (mt_adr (kG K) 56)), (1, .int x1), (2, .int x2), (3, .int x3), (4, .int x4), (5, .int x5), (6, .int x6)] [] (bX6_copy_128 fu n σ x1 x2 x3 x4 x5 x6 = some (r, σf)) := by
  intro n
  induction n with
  | zero => intro σ x1 x2 x3 x4 x5 x6; intro hP; unfold bX6_copy_128 at hP; cases hP
  | succ n ih =>
    intro σ x1 x2 x3 x4 x5 x6
    unfold bX6_copy_128
    refine mv_iload 6 dX6_copy_128 rfl ?_
    refine mv_iload 5 dX6_copy_130 rfl ?_
    refine mv_icmp_ge 162 dX6_copy_132 (by decide) ?_ ?_
    · refine mv_iconst (v := 0) dX6_copy_162 ic_0 ?_
      refine mv_istore (lv' := [(0, .ref (mt_adr (kG K) 56)), (3, .int x3), (4, .int x4), (5, .int x5), (6, .int (0 : Int32))]) [1, 4, 5, 6, 0] dX6_copy_163 (by decide) rfl ?_
      exact vX6_copy_165 hQ fu σ x3 x4 x5 (0 : Int32)
    · refine mv_aload_n 0 dX6_copy_135 rfl rfl ?_
      refine mg_X6_20 fl_X6_57 dX6_copy_136 ?_
      refine mv_iload 6 dX6_copy_139 rfl ?_
      refine mv_aload_n 0 dX6_copy_141 rfl rfl ?_
      refine mg_X6_19 fl_X6_54 dX6_copy_142 ?_
      refine mv_bipush (v := 40) dX6_copy_145 bp_40 ?_
      refine mv_iload_n 1 dX6_copy_147 rfl rfl ?_
      refine mv_imul dX6_copy_148 ?_
      refine mv_iload_n 2 dX6_copy_149 rfl rfl ?_
      refine mv_iadd dX6_copy_150 ?_
      refine mv_iload 6 dX6_copy_151 rfl ?_
      refine mv_iadd dX6_copy_153 ?_
      refine mv_iald 160 rfl rfl dX6_copy_154 ?_
      refine mv_iast 40 rfl rfl dX6_copy_155 (fun s1 => ?_)
      refine mv_iinc (k0 := 6) (v := x6 + 1) (lv' := [(0, .ref (mt_adr (kG K) 56)), (1, .int x1), (2, .int x2), (3, .int x3), (4, .int x4), (5, .int x5), (6, .int (x6 + 1))]) [1, 2, 3, 4, 5, 6, 0] dX6_copy_156 rfl (mt_inc ic_1) (by decide) rfl ?_
      refine mv_goto 128 dX6_copy_159 (by decide) ?_
      exact ih s1 x1 x2 x3 x4 x5 (x6 + 1)
def bX6_copy_118 (fu : Nat) (σ : mt_St) : Option (Int32 × mt_St) :=
  mt_call (fX6_finding fu σ (-1000001 : Int32)) fun r1 s2 =>
  some (r1, s2)
set_option maxHeartbeats 4000000 in
set_option maxRecDepth 20000 in
theorem vX6_copy_118 {K : mt_C} {fu : Nat} {r : Int32} {σf : mt_St} (hQ : mt_R K (some .int) (some (.int r)) σf) : ∀ (σ : mt_St), mt_V K cX6_copy RX6 7 2 σ 118 [(0, .ref (mt_adr (kG K) 56))] [] (bX6_copy_118 fu σ = some (r, σf)) := by
  intro σ
  unfold bX6_copy_118
  refine mv_aload_n 0 dX6_copy_118 rfl rfl ?_
  refine mv_ldc kc_X6_60 dX6_copy_119 ?_
  refine mv_cVwi (As := [.int (-1000001 : Int32)]) (st := []) cal_X6_finding ins_X6_finding ml_X6_66 rfl (by decide) rfl rfl (by decide) rfl (Nat.le_of_ble_eq_true rfl) dX6_copy_121 (fun r s h => co_X6_finding h) (fun r1 s2 => ?_)
  exact mv_iret hQ dX6_copy_124
def bX6_copy_39 (fu : Nat) (σ : mt_St) : Option (Int32 × mt_St) :=
  mt_call (fX6_finding fu σ (-1000006 : Int32)) fun r1 s2 =>
  some (r1, s2)
set_option maxHeartbeats 4000000 in
set_option maxRecDepth 20000 in
theorem vX6_copy_39 {K : mt_C} {fu : Nat} {r : Int32} {σf : mt_St} (hQ : mt_R K (some .int) (some (.int r)) σf) : ∀ (σ : mt_St), mt_V K cX6_copy RX6 7 2 σ 39 [(0, .ref (mt_adr (kG K) 56))] [] (bX6_copy_39 fu σ = some (r, σf)) := by
  intro σ
  unfold bX6_copy_39
  refine mv_aload_n 0 dX6_copy_39 rfl rfl ?_
  refine mv_ldc kc_X6_210 dX6_copy_40 ?_
  refine mv_cVwi (As := [.int (-1000006 : Int32)]) (st := []) cal_X6_finding ins_X6_finding ml_X6_66 rfl (by decide) rfl rfl (by decide) rfl (Nat.le_of_ble_eq_true rfl) dX6_copy_42 (fun r s h => co_X6_finding h) (fun r1 s2 => ?_)
  exact mv_iret hQ dX6_copy_45
def bX6_copy_14 (fu : Nat) (σ : mt_St) : Option (Int32 × mt_St) :=
  mt_call (fX6_finding fu σ (-1000001 : Int32)) fun r1 s2 =>
  some (r1, s2)
set_option maxHeartbeats 4000000 in
set_option maxRecDepth 20000 in
theorem vX6_copy_14 {K : mt_C} {fu : Nat} {r : Int32} {σf : mt_St} (hQ : mt_R K (some .int) (some (.int r)) σf) : ∀ (σ : mt_St), mt_V K cX6_copy RX6 7 2 σ 14 [(0, .ref (mt_adr (kG K) 56))] [] (bX6_copy_14 fu σ = some (r, σf)) := by
  intro σ
  unfold bX6_copy_14
  refine mv_aload_n 0 dX6_copy_14 rfl rfl ?_
  refine mv_ldc kc_X6_60 dX6_copy_15 ?_
  refine mv_cVwi (As := [.int (-1000001 : Int32)]) (st := []) cal_X6_finding ins_X6_finding ml_X6_66 rfl (by decide) rfl rfl (by decide) rfl (Nat.le_of_ble_eq_true rfl) dX6_copy_17 (fun r s h => co_X6_finding h) (fun r1 s2 => ?_)
  exact mv_iret hQ dX6_copy_20
def fX6_copy (fu : Nat) (σ : mt_St) (a1 : Int32) (a2 : Int32) (a3 : Int32) (a4 : Int32) (a5 : Int32) : Option (Int32 × mt_St) :=
  mt_ask (fX6_isSheet fu a1) fun r1 =>
  if r1 = 0 then
    bX6_copy_14 fu σ
  else
    mt_ask (fX6_isSheet fu a3) fun r2 =>
    if r2 = 0 then
      bX6_copy_14 fu σ
    else
      mt_chk (mt_in a1 4) <|
      if (σ 64 (Int32.toNatClampNeg a1)) = 0 then
        bX6_copy_39 fu σ
      else
        mt_chk (mt_in a3 4) <|
        if (σ 64 (Int32.toNatClampNeg a3)) = 0 then
          bX6_copy_39 fu σ
        else
          mt_chk (mt_in a1 4) <|
          mt_chk (mt_in a3 4) <|
          if (σ 64 (Int32.toNatClampNeg a1)) = (σ 64 (Int32.toNatClampNeg a3)) then
            if a2 < 0 then
              bX6_copy_118 fu σ
            else
              if a4 < 0 then
                bX6_copy_118 fu σ
              else
                if a5 < 0 then
                  bX6_copy_118 fu σ
                else
                  mt_chk (mt_in a1 4) <|
                  if 0 < (lg_cmp ((Int32.toInt64 a2) + (Int32.toInt64 a5)) (Int32.toInt64 (σ 65 (Int32.toNatClampNeg a1)))) then
                    bX6_copy_118 fu σ
                  else
                    mt_chk (mt_in a3 4) <|
                    if (lg_cmp ((Int32.toInt64 a4) + (Int32.toInt64 a5)) (Int32.toInt64 (σ 65 (Int32.toNatClampNeg a3)))) ≤ 0 then
                      bX6_copy_128 fu fu σ a1 a2 a3 a4 a5 (0 : Int32)
                    else
                      bX6_copy_118 fu σ
          else
            mt_call (fX6_finding fu σ (-1000003 : Int32)) fun r3 s4 =>
            some (r3, s4)
set_option maxHeartbeats 4000000 in
set_option maxRecDepth 20000 in
theorem vX6_copy {K : mt_C} {fu : Nat} {σ : mt_St} {a1 : Int32} {a2 : Int32} {a3 : Int32} {a4 : Int32} {a5 : Int32} {r : Int32} {σf : mt_St} (hQ : mt_R K (some .int) (some (.int r)) σf) : mt_V K cX6_copy RX6 7 2 σ 0 [(0, .ref (mt_adr (kG K) 56)), (1, .int a1), (2, .int a2), (3, .int a3), (4, .int a4), (5, .int a5)] [] (fX6_copy fu σ a1 a2 a3 a4 a5 = some (r, σf)) := by
  unfold fX6_copy
  refine mv_iload_n 1 dX6_copy_0 rfl rfl ?_
  refine mv_cSri (As := [.int a1]) (st := []) cal_X6_isSheet sta_X6_isSheet ml_X6_207 rfl (by decide) rfl (Nat.le_of_ble_eq_true rfl) dX6_copy_1 (fun r h => co_X6_isSheet h) (fun r1 => ?_)
  refine mv_if_eq 14 dX6_copy_4 (by decide) ?_ ?_
  · refine mv_sub (lv' := [(0, .ref (mt_adr (kG K) 56))]) [0] rfl ?_
    exact vX6_copy_14 hQ σ
  · refine mv_iload_n 3 dX6_copy_7 rfl rfl ?_
    refine mv_cSri (As := [.int a3]) (st := []) cal_X6_isSheet sta_X6_isSheet ml_X6_207 rfl (by decide) rfl (Nat.le_of_ble_eq_true rfl) dX6_copy_8 (fun r h => co_X6_isSheet h) (fun r2 => ?_)
    refine mv_if_ne 21 dX6_copy_11 (by decide) ?_ ?_
    · refine mv_aload_n 0 dX6_copy_21 rfl rfl ?_
      refine mg_X6_17 fl_X6_48 dX6_copy_22 ?_
      refine mv_iload_n 1 dX6_copy_25 rfl rfl ?_
      refine mv_iald 4 rfl rfl dX6_copy_26 ?_
      refine mv_if_eq 39 dX6_copy_27 (by decide) ?_ ?_
      · refine mv_sub (lv' := [(0, .ref (mt_adr (kG K) 56))]) [0] rfl ?_
        exact vX6_copy_39 hQ σ
      · refine mv_aload_n 0 dX6_copy_30 rfl rfl ?_
        refine mg_X6_17 fl_X6_48 dX6_copy_31 ?_
        refine mv_iload_n 3 dX6_copy_34 rfl rfl ?_
        refine mv_iald 4 rfl rfl dX6_copy_35 ?_
        refine mv_if_ne 46 dX6_copy_36 (by decide) ?_ ?_
        · refine mv_aload_n 0 dX6_copy_46 rfl rfl ?_
          refine mg_X6_17 fl_X6_48 dX6_copy_47 ?_
          refine mv_iload_n 1 dX6_copy_50 rfl rfl ?_
          refine mv_iald 4 rfl rfl dX6_copy_51 ?_
          refine mv_aload_n 0 dX6_copy_52 rfl rfl ?_
          refine mg_X6_17 fl_X6_48 dX6_copy_53 ?_
          refine mv_iload_n 3 dX6_copy_56 rfl rfl ?_
          refine mv_iald 4 rfl rfl dX6_copy_57 ?_
          refine mv_icmp_eq 69 dX6_copy_58 (by decide) ?_ ?_
          · refine mv_iload_n 2 dX6_copy_69 rfl rfl ?_
            refine mv_if_lt 118 dX6_copy_70 (by decide) ?_ ?_
            · refine mv_sub (lv' := [(0, .ref (mt_adr (kG K) 56))]) [0] rfl ?_
              exact vX6_copy_118 hQ σ
            · refine mv_iload 4 dX6_copy_73 rfl ?_
              refine mv_if_lt 118 dX6_copy_75 (by decide) ?_ ?_
              · refine mv_sub (lv' := [(0, .ref (mt_adr (kG K) 56))]) [0] rfl ?_
                exact vX6_copy_118 hQ σ
              · refine mv_iload 5 dX6_copy_78 rfl ?_
                refine mv_if_lt 118 dX6_copy_80 (by decide) ?_ ?_
                · refine mv_sub (lv' := [(0, .ref (mt_adr (kG K) 56))]) [0] rfl ?_
                  exact vX6_copy_118 hQ σ
                · refine mv_iload_n 2 dX6_copy_83 rfl rfl ?_
                  refine mv_i2l dX6_copy_84 ?_
                  refine mv_iload 5 dX6_copy_85 rfl ?_
                  refine mv_i2l dX6_copy_87 ?_
                  refine mv_ladd dX6_copy_88 ?_
                  refine mv_aload_n 0 dX6_copy_89 rfl rfl ?_
                  refine mg_X6_18 fl_X6_51 dX6_copy_90 ?_
                  refine mv_iload_n 1 dX6_copy_93 rfl rfl ?_
                  refine mv_iald 4 rfl rfl dX6_copy_94 ?_
                  refine mv_i2l dX6_copy_95 ?_
                  refine mv_lcmp dX6_copy_96 ?_
                  refine mv_if_gt 118 dX6_copy_97 (by decide) ?_ ?_
                  · refine mv_sub (lv' := [(0, .ref (mt_adr (kG K) 56))]) [0] rfl ?_
                    exact vX6_copy_118 hQ σ
                  · refine mv_iload 4 dX6_copy_100 rfl ?_
                    refine mv_i2l dX6_copy_102 ?_
                    refine mv_iload 5 dX6_copy_103 rfl ?_
                    refine mv_i2l dX6_copy_105 ?_
                    refine mv_ladd dX6_copy_106 ?_
                    refine mv_aload_n 0 dX6_copy_107 rfl rfl ?_
                    refine mg_X6_18 fl_X6_51 dX6_copy_108 ?_
                    refine mv_iload_n 3 dX6_copy_111 rfl rfl ?_
                    refine mv_iald 4 rfl rfl dX6_copy_112 ?_
                    refine mv_i2l dX6_copy_113 ?_
                    refine mv_lcmp dX6_copy_114 ?_
                    refine mv_if_le 125 dX6_copy_115 (by decide) ?_ ?_
                    · refine mv_iconst (v := 0) dX6_copy_125 ic_0 ?_
                      refine mv_istore (lv' := [(0, .ref (mt_adr (kG K) 56)), (1, .int a1), (2, .int a2), (3, .int a3), (4, .int a4), (5, .int a5), (6, .int (0 : Int32))]) [1, 2, 3, 4, 5, 6, 0] dX6_copy_126 (by decide) rfl ?_
                      exact vX6_copy_128 hQ fu σ a1 a2 a3 a4 a5 (0 : Int32)
                    · refine mv_sub (lv' := [(0, .ref (mt_adr (kG K) 56))]) [0] rfl ?_
                      exact vX6_copy_118 hQ σ
          · refine mv_aload_n 0 dX6_copy_61 rfl rfl ?_
            refine mv_ldcw kc_X6_308 dX6_copy_62 ?_
            refine mv_cVwi (As := [.int (-1000003 : Int32)]) (st := []) cal_X6_finding ins_X6_finding ml_X6_66 rfl (by decide) rfl rfl (by decide) rfl (Nat.le_of_ble_eq_true rfl) dX6_copy_65 (fun r s h => co_X6_finding h) (fun r3 s4 => ?_)
            exact mv_iret hQ dX6_copy_68
        · refine mv_sub (lv' := [(0, .ref (mt_adr (kG K) 56))]) [0] rfl ?_
          exact vX6_copy_39 hQ σ
    · refine mv_sub (lv' := [(0, .ref (mt_adr (kG K) 56))]) [0] rfl ?_
      exact vX6_copy_14 hQ σ
theorem co_X6_copy {l : Launch} {G : mt_G} {fu : Nat} {σ : mt_St} {a1 : Int32} {a2 : Int32} {a3 : Int32} {a4 : Int32} {a5 : Int32} {r : Int32} {σf : mt_St}  (h : fX6_copy fu σ a1 a2 a3 a4 a5 = some (r, σf)) : mt_Con l G yX6_copy cX6_copy 7 (some .int) 2 [.ref (mt_adr G 56), .int a1, .int a2, .int a3, .int a4, .int a5] σ (some (.int r)) σf :=
  mt_con (by decide) (Nat.le_of_ble_eq_true rfl) (fun K hl hG hQ => by subst hl; subst hG; exact fun _ => vX6_copy  hQ h)
theorem dX6_load_0 : decode cX6_load 0 = .ok (.aload_n 0, 1) := by decide +kernel
theorem dX6_load_1 : decode cX6_load 1 = .ok (.iload_n 1, 1) := by decide +kernel
theorem dX6_load_2 : decode cX6_load 2 = .ok (.iconst 1, 1) := by decide +kernel
theorem dX6_load_3 : decode cX6_load 3 = .ok (.invokevirtual 211, 3) := by decide +kernel
theorem dX6_load_6 : decode cX6_load 6 = .ok (.ifCond .eq 14, 3) := by decide +kernel
theorem dX6_load_9 : decode cX6_load 9 = .ok (.aload_n 0, 1) := by decide +kernel
theorem dX6_load_10 : decode cX6_load 10 = .ok (.aload_n 0, 1) := by decide +kernel
theorem dX6_load_11 : decode cX6_load 11 = .ok (.iload_n 1, 1) := by decide +kernel
theorem dX6_load_12 : decode cX6_load 12 = .ok (.iconst 1, 1) := by decide +kernel
theorem dX6_load_13 : decode cX6_load 13 = .ok (.invokevirtual 211, 3) := by decide +kernel
theorem dX6_load_16 : decode cX6_load 16 = .ok (.invokevirtual 66, 3) := by decide +kernel
theorem dX6_load_19 : decode cX6_load 19 = .ok (.ireturn, 1) := by decide +kernel
theorem dX6_load_20 : decode cX6_load 20 = .ok (.iconst 0, 1) := by decide +kernel
theorem dX6_load_21 : decode cX6_load 21 = .ok (.istore_n 2, 1) := by decide +kernel
theorem dX6_load_22 : decode cX6_load 22 = .ok (.iload_n 2, 1) := by decide +kernel
theorem dX6_load_23 : decode cX6_load 23 = .ok (.aload_n 0, 1) := by decide +kernel
theorem dX6_load_24 : decode cX6_load 24 = .ok (.getfield 51, 3) := by decide +kernel
theorem dX6_load_27 : decode cX6_load 27 = .ok (.iload_n 1, 1) := by decide +kernel
theorem dX6_load_28 : decode cX6_load 28 = .ok (.iaload, 1) := by decide +kernel
theorem dX6_load_29 : decode cX6_load 29 = .ok (.if_icmp .ge 55, 3) := by decide +kernel
theorem dX6_load_32 : decode cX6_load 32 = .ok (.aload_n 0, 1) := by decide +kernel
theorem dX6_load_33 : decode cX6_load 33 = .ok (.iload_n 2, 1) := by decide +kernel
theorem dX6_load_34 : decode cX6_load 34 = .ok (.invokevirtual 120, 3) := by decide +kernel
theorem dX6_load_37 : decode cX6_load 37 = .ok (.ifCond .eq 47, 3) := by decide +kernel
theorem dX6_load_40 : decode cX6_load 40 = .ok (.aload_n 0, 1) := by decide +kernel
theorem dX6_load_41 : decode cX6_load 41 = .ok (.getfield 54, 3) := by decide +kernel
theorem dX6_load_44 : decode cX6_load 44 = .ok (.bipush 40, 2) := by decide +kernel
theorem dX6_load_46 : decode cX6_load 46 = .ok (.iload_n 1, 1) := by decide +kernel
theorem dX6_load_47 : decode cX6_load 47 = .ok (.imul, 1) := by decide +kernel
theorem dX6_load_48 : decode cX6_load 48 = .ok (.iload_n 2, 1) := by decide +kernel
theorem dX6_load_49 : decode cX6_load 49 = .ok (.iadd, 1) := by decide +kernel
theorem dX6_load_50 : decode cX6_load 50 = .ok (.iaload, 1) := by decide +kernel
theorem dX6_load_51 : decode cX6_load 51 = .ok (.invokestatic 74, 3) := by decide +kernel
theorem dX6_load_54 : decode cX6_load 54 = .ok (.ifCond .eq 30, 3) := by decide +kernel
theorem dX6_load_57 : decode cX6_load 57 = .ok (.aload_n 0, 1) := by decide +kernel
theorem dX6_load_58 : decode cX6_load 58 = .ok (.getfield 9, 3) := by decide +kernel
theorem dX6_load_61 : decode cX6_load 61 = .ok (.iload_n 2, 1) := by decide +kernel
theorem dX6_load_62 : decode cX6_load 62 = .ok (.iconst 3, 1) := by decide +kernel
theorem dX6_load_63 : decode cX6_load 63 = .ok (.invokestatic 85, 3) := by decide +kernel
theorem dX6_load_66 : decode cX6_load 66 = .ok (.aload_n 0, 1) := by decide +kernel
theorem dX6_load_67 : decode cX6_load 67 = .ok (.getfield 54, 3) := by decide +kernel
theorem dX6_load_70 : decode cX6_load 70 = .ok (.bipush 40, 2) := by decide +kernel
theorem dX6_load_72 : decode cX6_load 72 = .ok (.iload_n 1, 1) := by decide +kernel
theorem dX6_load_73 : decode cX6_load 73 = .ok (.imul, 1) := by decide +kernel
theorem dX6_load_74 : decode cX6_load 74 = .ok (.iload_n 2, 1) := by decide +kernel
theorem dX6_load_75 : decode cX6_load 75 = .ok (.iadd, 1) := by decide +kernel
theorem dX6_load_76 : decode cX6_load 76 = .ok (.iaload, 1) := by decide +kernel
theorem dX6_load_77 : decode cX6_load 77 = .ok (.iastore, 1) := by decide +kernel
theorem dX6_load_78 : decode cX6_load 78 = .ok (.iinc 2 1, 3) := by decide +kernel
theorem dX6_load_81 : decode cX6_load 81 = .ok (.goto (-59), 3) := by decide +kernel
theorem dX6_load_84 : decode cX6_load 84 = .ok (.iload_n 2, 1) := by decide +kernel
theorem dX6_load_85 : decode cX6_load 85 = .ok (.ireturn, 1) := by decide +kernel
def bX6_load_84 (fu : Nat) (σ : mt_St) (x2 : Int32) : Option (Int32 × mt_St) :=
  some (x2, σ)
set_option maxHeartbeats 4000000 in
set_option maxRecDepth 20000 in
theorem vX6_load_84 {K : mt_C} {fu : Nat} {r : Int32} {σf : mt_St} (hQ : mt_R K (some .int) (some (.int r)) σf) : ∀ (σ : mt_St) (x2 : Int32), mt_V K cX6_load RX6 3 3 σ 84 [(2, .int x2)] [] (bX6_load_84 fu σ x2 = some (r, σf)) := by
  intro σ x2
  unfold bX6_load_84
  refine mv_iload_n 0 dX6_load_84 rfl rfl ?_
  exact mv_iret hQ dX6_load_85
def bX6_load_22 (fu : Nat) : Nat → mt_St → Int32 → Int32 → Option (Int32 × mt_St)
  | 0, _, _, _ => none
  | n + 1, σ, x1, x2 =>
    mt_chk (mt_in x1 4) <|
    if (σ 65 (Int32.toNatClampNeg x1)) ≤ x2 then
      bX6_load_84 fu σ x2
    else
      mt_ask (fX6_isTreaty fu σ x2) fun r1 =>
      if r1 = 0 then
        bX6_load_84 fu σ x2
      else
        mt_chk (mt_in (((40 : Int32) * x1) + x2) 160) <|
        mt_ask (fX6_isFigures fu (σ 66 (Int32.toNatClampNeg (((40 : Int32) * x1) + x2)))) fun r2 =>
        if r2 = 0 then
          bX6_load_84 fu σ x2
        else
          mt_ask (fX6_treatyAt fu x2 (3 : Int32)) fun r3 =>
          mt_chk (mt_in (((40 : Int32) * x1) + x2) 160) <|
          mt_chk (mt_in r3 86) <|
          mt_bnd (mt_up σ 57 (Int32.toNatClampNeg r3) (σ 66 (Int32.toNatClampNeg (((40 : Int32) * x1) + x2)))) fun s4 =>
          bX6_load_22 fu n s4 x1 (x2 + 1)
set_option maxHeartbeats 4000000 in
set_option maxRecDepth 20000 in
theorem vX6_load_22 {K : mt_C} {fu : Nat} {r : Int32} {σf : mt_St} (hQ : mt_R K (some .int) (some (.int r)) σf) : ∀ (n : Nat) (σ : mt_St) (x1 : Int32) (x2 : Int32), mt_V K cX6_load RX6 3 3 σ 22 [(0, .ref (mt_adr (kG K) 56)), (1, .int x1), (2, .int x2)] [] (bX6_load_22 fu n σ x1 x2 = some (r, σf)) := by
  intro n
  induction n with
  | zero => intro σ x1 x2; intro hP; unfold bX6_load_22 at hP; cases hP
  | succ n ih =>
    intro σ x1 x2
    unfold bX6_load_22
    refine mv_iload_n 2 dX6_load_22 rfl rfl ?_
    refine mv_aload_n 0 dX6_load_23 rfl rfl ?_
    refine mg_X6_18 fl_X6_51 dX6_load_24 ?_
    refine mv_iload_n 1 dX6_load_27 rfl rfl ?_
    refine mv_iald 4 rfl rfl dX6_load_28 ?_
    refine mv_icmp_ge 84 dX6_load_29 (by decide) ?_ ?_
    · refine mv_sub (lv' := [(2, .int x2)]) [2] rfl ?_
      exact vX6_load_84 hQ σ x2
    · refine mv_aload_n 0 dX6_load_32 rfl rfl ?_
      refine mv_iload_n 2 dX6_load_33 rfl rfl ?_
      refine mv_cVri (As := [.int x2]) (st := []) cal_X6_isTreaty ins_X6_isTreaty ml_X6_120 rfl (by decide) rfl rfl (by decide) rfl (Nat.le_of_ble_eq_true rfl) dX6_load_34 (fun r h => co_X6_isTreaty h) (fun r1 => ?_)
      refine mv_if_eq 84 dX6_load_37 (by decide) ?_ ?_
      · refine mv_sub (lv' := [(2, .int x2)]) [2] rfl ?_
        exact vX6_load_84 hQ σ x2
      · refine mv_aload_n 0 dX6_load_40 rfl rfl ?_
        refine mg_X6_19 fl_X6_54 dX6_load_41 ?_
        refine mv_bipush (v := 40) dX6_load_44 bp_40 ?_
        refine mv_iload_n 1 dX6_load_46 rfl rfl ?_
        refine mv_imul dX6_load_47 ?_
        refine mv_iload_n 2 dX6_load_48 rfl rfl ?_
        refine mv_iadd dX6_load_49 ?_
        refine mv_iald 160 rfl rfl dX6_load_50 ?_
        refine mv_cSri (As := [.int (σ 66 (Int32.toNatClampNeg (((40 : Int32) * x1) + x2)))]) (st := []) cal_X6_isFigures sta_X6_isFigures ml_X6_74 rfl (by decide) rfl (Nat.le_of_ble_eq_true rfl) dX6_load_51 (fun r h => co_X6_isFigures h) (fun r2 => ?_)
        refine mv_if_eq 84 dX6_load_54 (by decide) ?_ ?_
        · refine mv_sub (lv' := [(2, .int x2)]) [2] rfl ?_
          exact vX6_load_84 hQ σ x2
        · refine mv_aload_n 0 dX6_load_57 rfl rfl ?_
          refine mg_X6_0 fl_X6_9 dX6_load_58 ?_
          refine mv_iload_n 2 dX6_load_61 rfl rfl ?_
          refine mv_iconst (v := 3) dX6_load_62 ic_3 ?_
          refine mv_cSri (As := [.int x2, .int (3 : Int32)]) (st := [.ref (mt_adr (kG K) 57)]) cal_X6_treatyAt sta_X6_treatyAt ml_X6_85 rfl (by decide) rfl (Nat.le_of_ble_eq_true rfl) dX6_load_63 (fun r h => co_X6_treatyAt h) (fun r3 => ?_)
          refine mv_aload_n 0 dX6_load_66 rfl rfl ?_
          refine mg_X6_19 fl_X6_54 dX6_load_67 ?_
          refine mv_bipush (v := 40) dX6_load_70 bp_40 ?_
          refine mv_iload_n 1 dX6_load_72 rfl rfl ?_
          refine mv_imul dX6_load_73 ?_
          refine mv_iload_n 2 dX6_load_74 rfl rfl ?_
          refine mv_iadd dX6_load_75 ?_
          refine mv_iald 160 rfl rfl dX6_load_76 ?_
          refine mv_iast 86 rfl rfl dX6_load_77 (fun s4 => ?_)
          refine mv_iinc (k0 := 2) (v := x2 + 1) (lv' := [(0, .ref (mt_adr (kG K) 56)), (1, .int x1), (2, .int (x2 + 1))]) [1, 2, 0] dX6_load_78 rfl (mt_inc ic_1) (by decide) rfl ?_
          refine mv_goto 22 dX6_load_81 (by decide) ?_
          exact ih s4 x1 (x2 + 1)
def fX6_load (fu : Nat) (σ : mt_St) (a1 : Int32) : Option (Int32 × mt_St) :=
  mt_ask (fX6_lacks fu σ a1 (1 : Int32)) fun r1 =>
  if r1 = 0 then
    bX6_load_22 fu fu σ a1 (0 : Int32)
  else
    mt_ask (fX6_lacks fu σ a1 (1 : Int32)) fun r2 =>
    mt_call (fX6_finding fu σ r2) fun r3 s4 =>
    some (r3, s4)
set_option maxHeartbeats 4000000 in
set_option maxRecDepth 20000 in
theorem vX6_load {K : mt_C} {fu : Nat} {σ : mt_St} {a1 : Int32} {r : Int32} {σf : mt_St} (hQ : mt_R K (some .int) (some (.int r)) σf) : mt_V K cX6_load RX6 3 3 σ 0 [(0, .ref (mt_adr (kG K) 56)), (1, .int a1)] [] (fX6_load fu σ a1 = some (r, σf)) := by
  unfold fX6_load
  refine mv_aload_n 0 dX6_load_0 rfl rfl ?_
  refine mv_iload_n 1 dX6_load_1 rfl rfl ?_
  refine mv_iconst (v := 1) dX6_load_2 ic_1 ?_
  refine mv_cVri (As := [.int a1, .int (1 : Int32)]) (st := []) cal_X6_lacks ins_X6_lacks ml_X6_211 rfl (by decide) rfl rfl (by decide) rfl (Nat.le_of_ble_eq_true rfl) dX6_load_3 (fun r h => co_X6_lacks h) (fun r1 => ?_)
  refine mv_if_eq 20 dX6_load_6 (by decide) ?_ ?_
  · refine mv_iconst (v := 0) dX6_load_20 ic_0 ?_
    refine mv_istore_n (lv' := [(0, .ref (mt_adr (kG K) 56)), (1, .int a1), (2, .int (0 : Int32))]) [1, 2, 0] dX6_load_21 rfl (by decide) rfl ?_
    exact vX6_load_22 hQ fu σ a1 (0 : Int32)
  · refine mv_aload_n 0 dX6_load_9 rfl rfl ?_
    refine mv_aload_n 0 dX6_load_10 rfl rfl ?_
    refine mv_iload_n 1 dX6_load_11 rfl rfl ?_
    refine mv_iconst (v := 1) dX6_load_12 ic_1 ?_
    refine mv_cVri (As := [.int a1, .int (1 : Int32)]) (st := [.ref (mt_adr (kG K) 56)]) cal_X6_lacks ins_X6_lacks ml_X6_211 rfl (by decide) rfl rfl (by decide) rfl (Nat.le_of_ble_eq_true rfl) dX6_load_13 (fun r h => co_X6_lacks h) (fun r2 => ?_)
    refine mv_cVwi (As := [.int r2]) (st := []) cal_X6_finding ins_X6_finding ml_X6_66 rfl (by decide) rfl rfl (by decide) rfl (Nat.le_of_ble_eq_true rfl) dX6_load_16 (fun r s h => co_X6_finding h) (fun r3 s4 => ?_)
    exact mv_iret hQ dX6_load_19
theorem co_X6_load {l : Launch} {G : mt_G} {fu : Nat} {σ : mt_St} {a1 : Int32} {r : Int32} {σf : mt_St}  (h : fX6_load fu σ a1 = some (r, σf)) : mt_Con l G yX6_load cX6_load 3 (some .int) 3 [.ref (mt_adr G 56), .int a1] σ (some (.int r)) σf :=
  mt_con (by decide) (Nat.le_of_ble_eq_true rfl) (fun K hl hG hQ => by subst hl; subst hG; exact fun _ => vX6_load  hQ h)
theorem dX6_judge_0 : decode cX6_judge 0 = .ok (.aload_n 0, 1) := by decide +kernel
theorem dX6_judge_1 : decode cX6_judge 1 = .ok (.iload_n 1, 1) := by decide +kernel
theorem dX6_judge_2 : decode cX6_judge 2 = .ok (.iconst 1, 1) := by decide +kernel
theorem dX6_judge_3 : decode cX6_judge 3 = .ok (.invokevirtual 211, 3) := by decide +kernel
theorem dX6_judge_6 : decode cX6_judge 6 = .ok (.ifCond .eq 14, 3) := by decide +kernel
theorem dX6_judge_9 : decode cX6_judge 9 = .ok (.aload_n 0, 1) := by decide +kernel
theorem dX6_judge_10 : decode cX6_judge 10 = .ok (.aload_n 0, 1) := by decide +kernel
theorem dX6_judge_11 : decode cX6_judge 11 = .ok (.iload_n 1, 1) := by decide +kernel
theorem dX6_judge_12 : decode cX6_judge 12 = .ok (.iconst 1, 1) := by decide +kernel
theorem dX6_judge_13 : decode cX6_judge 13 = .ok (.invokevirtual 211, 3) := by decide +kernel
theorem dX6_judge_16 : decode cX6_judge 16 = .ok (.invokevirtual 66, 3) := by decide +kernel
theorem dX6_judge_19 : decode cX6_judge 19 = .ok (.ireturn, 1) := by decide +kernel
theorem dX6_judge_20 : decode cX6_judge 20 = .ok (.iconst 0, 1) := by decide +kernel
theorem dX6_judge_21 : decode cX6_judge 21 = .ok (.istore_n 2, 1) := by decide +kernel
theorem dX6_judge_22 : decode cX6_judge 22 = .ok (.iload_n 2, 1) := by decide +kernel
theorem dX6_judge_23 : decode cX6_judge 23 = .ok (.aload_n 0, 1) := by decide +kernel
theorem dX6_judge_24 : decode cX6_judge 24 = .ok (.getfield 51, 3) := by decide +kernel
theorem dX6_judge_27 : decode cX6_judge 27 = .ok (.iload_n 1, 1) := by decide +kernel
theorem dX6_judge_28 : decode cX6_judge 28 = .ok (.iaload, 1) := by decide +kernel
theorem dX6_judge_29 : decode cX6_judge 29 = .ok (.if_icmp .ge 37, 3) := by decide +kernel
theorem dX6_judge_32 : decode cX6_judge 32 = .ok (.aload_n 0, 1) := by decide +kernel
theorem dX6_judge_33 : decode cX6_judge 33 = .ok (.iload_n 2, 1) := by decide +kernel
theorem dX6_judge_34 : decode cX6_judge 34 = .ok (.invokevirtual 120, 3) := by decide +kernel
theorem dX6_judge_37 : decode cX6_judge 37 = .ok (.ifCond .eq 29, 3) := by decide +kernel
theorem dX6_judge_40 : decode cX6_judge 40 = .ok (.aload_n 0, 1) := by decide +kernel
theorem dX6_judge_41 : decode cX6_judge 41 = .ok (.getfield 54, 3) := by decide +kernel
theorem dX6_judge_44 : decode cX6_judge 44 = .ok (.bipush 40, 2) := by decide +kernel
theorem dX6_judge_46 : decode cX6_judge 46 = .ok (.iload_n 1, 1) := by decide +kernel
theorem dX6_judge_47 : decode cX6_judge 47 = .ok (.imul, 1) := by decide +kernel
theorem dX6_judge_48 : decode cX6_judge 48 = .ok (.iload_n 2, 1) := by decide +kernel
theorem dX6_judge_49 : decode cX6_judge 49 = .ok (.iadd, 1) := by decide +kernel
theorem dX6_judge_50 : decode cX6_judge 50 = .ok (.iaload, 1) := by decide +kernel
theorem dX6_judge_51 : decode cX6_judge 51 = .ok (.aload_n 0, 1) := by decide +kernel
theorem dX6_judge_52 : decode cX6_judge 52 = .ok (.iload_n 2, 1) := by decide +kernel
theorem dX6_judge_53 : decode cX6_judge 53 = .ok (.iconst 5, 1) := by decide +kernel
theorem dX6_judge_54 : decode cX6_judge 54 = .ok (.invokevirtual 99, 3) := by decide +kernel
theorem dX6_judge_57 : decode cX6_judge 57 = .ok (.if_icmp .ne 9, 3) := by decide +kernel
theorem dX6_judge_60 : decode cX6_judge 60 = .ok (.iinc 2 1, 3) := by decide +kernel
theorem dX6_judge_63 : decode cX6_judge 63 = .ok (.goto (-41), 3) := by decide +kernel
theorem dX6_judge_66 : decode cX6_judge 66 = .ok (.iload_n 2, 1) := by decide +kernel
theorem dX6_judge_67 : decode cX6_judge 67 = .ok (.aload_n 0, 1) := by decide +kernel
theorem dX6_judge_68 : decode cX6_judge 68 = .ok (.getfield 51, 3) := by decide +kernel
theorem dX6_judge_71 : decode cX6_judge 71 = .ok (.iload_n 1, 1) := by decide +kernel
theorem dX6_judge_72 : decode cX6_judge 72 = .ok (.iaload, 1) := by decide +kernel
theorem dX6_judge_73 : decode cX6_judge 73 = .ok (.if_icmp .ne 7, 3) := by decide +kernel
theorem dX6_judge_76 : decode cX6_judge 76 = .ok (.iconst 0, 1) := by decide +kernel
theorem dX6_judge_77 : decode cX6_judge 77 = .ok (.goto 6, 3) := by decide +kernel
theorem dX6_judge_80 : decode cX6_judge 80 = .ok (.iconst 1, 1) := by decide +kernel
theorem dX6_judge_81 : decode cX6_judge 81 = .ok (.iload_n 2, 1) := by decide +kernel
theorem dX6_judge_82 : decode cX6_judge 82 = .ok (.iadd, 1) := by decide +kernel
theorem dX6_judge_83 : decode cX6_judge 83 = .ok (.ireturn, 1) := by decide +kernel
def bX6_judge_83 (fu : Nat) (σ : mt_St) (y0 : Int32) : Option (Int32 × mt_St) :=
  some (y0, σ)
set_option maxHeartbeats 4000000 in
set_option maxRecDepth 20000 in
theorem vX6_judge_83 {K : mt_C} {fu : Nat} {r : Int32} {σf : mt_St} (hQ : mt_R K (some .int) (some (.int r)) σf) : ∀ (σ : mt_St) (y0 : Int32), mt_V K cX6_judge RX6 3 3 σ 83 [] [.int y0] (bX6_judge_83 fu σ y0 = some (r, σf)) := by
  intro σ y0
  unfold bX6_judge_83
  exact mv_iret hQ dX6_judge_83
def bX6_judge_66 (fu : Nat) (σ : mt_St) (x1 : Int32) (x2 : Int32) : Option (Int32 × mt_St) :=
  mt_chk (mt_in x1 4) <|
  if x2 = (σ 65 (Int32.toNatClampNeg x1)) then
    bX6_judge_83 fu σ (0 : Int32)
  else
    bX6_judge_83 fu σ ((1 : Int32) + x2)
set_option maxHeartbeats 4000000 in
set_option maxRecDepth 20000 in
theorem vX6_judge_66 {K : mt_C} {fu : Nat} {r : Int32} {σf : mt_St} (hQ : mt_R K (some .int) (some (.int r)) σf) : ∀ (σ : mt_St) (x1 : Int32) (x2 : Int32), mt_V K cX6_judge RX6 3 3 σ 66 [(0, .ref (mt_adr (kG K) 56)), (1, .int x1), (2, .int x2)] [] (bX6_judge_66 fu σ x1 x2 = some (r, σf)) := by
  intro σ x1 x2
  unfold bX6_judge_66
  refine mv_iload_n 2 dX6_judge_66 rfl rfl ?_
  refine mv_aload_n 0 dX6_judge_67 rfl rfl ?_
  refine mg_X6_18 fl_X6_51 dX6_judge_68 ?_
  refine mv_iload_n 1 dX6_judge_71 rfl rfl ?_
  refine mv_iald 4 rfl rfl dX6_judge_72 ?_
  refine mv_icmp_ne 80 dX6_judge_73 (by decide) ?_ ?_
  · refine mv_iconst (v := 1) dX6_judge_80 ic_1 ?_
    refine mv_iload_n 2 dX6_judge_81 rfl rfl ?_
    refine mv_iadd dX6_judge_82 ?_
    refine mv_sub (lv' := []) [] rfl ?_
    exact vX6_judge_83 hQ σ ((1 : Int32) + x2)
  · refine mv_iconst (v := 0) dX6_judge_76 ic_0 ?_
    refine mv_goto 83 dX6_judge_77 (by decide) ?_
    refine mv_sub (lv' := []) [] rfl ?_
    exact vX6_judge_83 hQ σ (0 : Int32)
def bX6_judge_22 (fu : Nat) : Nat → mt_St → Int32 → Int32 → Option (Int32 × mt_St)
  | 0, _, _, _ => none
  | n + 1, σ, x1, x2 =>
    mt_chk (mt_in x1 4) <|
    if (σ 65 (Int32.toNatClampNeg x1)) ≤ x2 then
      bX6_judge_66 fu σ x1 x2
    else
      mt_ask (fX6_isTreaty fu σ x2) fun r1 =>
      if r1 = 0 then
        bX6_judge_66 fu σ x1 x2
      else
        mt_chk (mt_in (((40 : Int32) * x1) + x2) 160) <|
        mt_ask (fX6_treatyIs fu σ x2 (5 : Int32)) fun r2 =>
        if (σ 66 (Int32.toNatClampNeg (((40 : Int32) * x1) + x2))) = r2 then
          bX6_judge_22 fu n σ x1 (x2 + 1)
        else
          bX6_judge_66 fu σ x1 x2
set_option maxHeartbeats 4000000 in
set_option maxRecDepth 20000 in
theorem vX6_judge_22 {K : mt_C} {fu : Nat} {r : Int32} {σf : mt_St} (hQ : mt_R K (some .int) (some (.int r)) σf) : ∀ (n : Nat) (σ : mt_St) (x1 : Int32) (x2 : Int32), mt_V K cX6_judge RX6 3 3 σ 22 [(0, .ref (mt_adr (kG K) 56)), (1, .int x1), (2, .int x2)] [] (bX6_judge_22 fu n σ x1 x2 = some (r, σf)) := by
  intro n
  induction n with
  | zero => intro σ x1 x2; intro hP; unfold bX6_judge_22 at hP; cases hP
  | succ n ih =>
    intro σ x1 x2
    unfold bX6_judge_22
    refine mv_iload_n 2 dX6_judge_22 rfl rfl ?_
    refine mv_aload_n 0 dX6_judge_23 rfl rfl ?_
    refine mg_X6_18 fl_X6_51 dX6_judge_24 ?_
    refine mv_iload_n 1 dX6_judge_27 rfl rfl ?_
    refine mv_iald 4 rfl rfl dX6_judge_28 ?_
    refine mv_icmp_ge 66 dX6_judge_29 (by decide) ?_ ?_
    · exact vX6_judge_66 hQ σ x1 x2
    · refine mv_aload_n 0 dX6_judge_32 rfl rfl ?_
      refine mv_iload_n 2 dX6_judge_33 rfl rfl ?_
      refine mv_cVri (As := [.int x2]) (st := []) cal_X6_isTreaty ins_X6_isTreaty ml_X6_120 rfl (by decide) rfl rfl (by decide) rfl (Nat.le_of_ble_eq_true rfl) dX6_judge_34 (fun r h => co_X6_isTreaty h) (fun r1 => ?_)
      refine mv_if_eq 66 dX6_judge_37 (by decide) ?_ ?_
      · exact vX6_judge_66 hQ σ x1 x2
      · refine mv_aload_n 0 dX6_judge_40 rfl rfl ?_
        refine mg_X6_19 fl_X6_54 dX6_judge_41 ?_
        refine mv_bipush (v := 40) dX6_judge_44 bp_40 ?_
        refine mv_iload_n 1 dX6_judge_46 rfl rfl ?_
        refine mv_imul dX6_judge_47 ?_
        refine mv_iload_n 2 dX6_judge_48 rfl rfl ?_
        refine mv_iadd dX6_judge_49 ?_
        refine mv_iald 160 rfl rfl dX6_judge_50 ?_
        refine mv_aload_n 0 dX6_judge_51 rfl rfl ?_
        refine mv_iload_n 2 dX6_judge_52 rfl rfl ?_
        refine mv_iconst (v := 5) dX6_judge_53 ic_5 ?_
        refine mv_cVri (As := [.int x2, .int (5 : Int32)]) (st := [.int (σ 66 (Int32.toNatClampNeg (((40 : Int32) * x1) + x2)))]) cal_X6_treatyIs ins_X6_treatyIs ml_X6_99 rfl (by decide) rfl rfl (by decide) rfl (Nat.le_of_ble_eq_true rfl) dX6_judge_54 (fun r h => co_X6_treatyIs h) (fun r2 => ?_)
        refine mv_icmp_ne 66 dX6_judge_57 (by decide) ?_ ?_
        · exact vX6_judge_66 hQ σ x1 x2
        · refine mv_iinc (k0 := 2) (v := x2 + 1) (lv' := [(0, .ref (mt_adr (kG K) 56)), (1, .int x1), (2, .int (x2 + 1))]) [1, 2, 0] dX6_judge_60 rfl (mt_inc ic_1) (by decide) rfl ?_
          refine mv_goto 22 dX6_judge_63 (by decide) ?_
          exact ih σ x1 (x2 + 1)
def fX6_judge (fu : Nat) (σ : mt_St) (a1 : Int32) : Option (Int32 × mt_St) :=
  mt_ask (fX6_lacks fu σ a1 (1 : Int32)) fun r1 =>
  if r1 = 0 then
    bX6_judge_22 fu fu σ a1 (0 : Int32)
  else
    mt_ask (fX6_lacks fu σ a1 (1 : Int32)) fun r2 =>
    mt_call (fX6_finding fu σ r2) fun r3 s4 =>
    some (r3, s4)
set_option maxHeartbeats 4000000 in
set_option maxRecDepth 20000 in
theorem vX6_judge {K : mt_C} {fu : Nat} {σ : mt_St} {a1 : Int32} {r : Int32} {σf : mt_St} (hQ : mt_R K (some .int) (some (.int r)) σf) : mt_V K cX6_judge RX6 3 3 σ 0 [(0, .ref (mt_adr (kG K) 56)), (1, .int a1)] [] (fX6_judge fu σ a1 = some (r, σf)) := by
  unfold fX6_judge
  refine mv_aload_n 0 dX6_judge_0 rfl rfl ?_
  refine mv_iload_n 1 dX6_judge_1 rfl rfl ?_
  refine mv_iconst (v := 1) dX6_judge_2 ic_1 ?_
  refine mv_cVri (As := [.int a1, .int (1 : Int32)]) (st := []) cal_X6_lacks ins_X6_lacks ml_X6_211 rfl (by decide) rfl rfl (by decide) rfl (Nat.le_of_ble_eq_true rfl) dX6_judge_3 (fun r h => co_X6_lacks h) (fun r1 => ?_)
  refine mv_if_eq 20 dX6_judge_6 (by decide) ?_ ?_
  · refine mv_iconst (v := 0) dX6_judge_20 ic_0 ?_
    refine mv_istore_n (lv' := [(0, .ref (mt_adr (kG K) 56)), (1, .int a1), (2, .int (0 : Int32))]) [1, 2, 0] dX6_judge_21 rfl (by decide) rfl ?_
    exact vX6_judge_22 hQ fu σ a1 (0 : Int32)
  · refine mv_aload_n 0 dX6_judge_9 rfl rfl ?_
    refine mv_aload_n 0 dX6_judge_10 rfl rfl ?_
    refine mv_iload_n 1 dX6_judge_11 rfl rfl ?_
    refine mv_iconst (v := 1) dX6_judge_12 ic_1 ?_
    refine mv_cVri (As := [.int a1, .int (1 : Int32)]) (st := [.ref (mt_adr (kG K) 56)]) cal_X6_lacks ins_X6_lacks ml_X6_211 rfl (by decide) rfl rfl (by decide) rfl (Nat.le_of_ble_eq_true rfl) dX6_judge_13 (fun r h => co_X6_lacks h) (fun r2 => ?_)
    refine mv_cVwi (As := [.int r2]) (st := []) cal_X6_finding ins_X6_finding ml_X6_66 rfl (by decide) rfl rfl (by decide) rfl (Nat.le_of_ble_eq_true rfl) dX6_judge_16 (fun r s h => co_X6_finding h) (fun r3 s4 => ?_)
    exact mv_iret hQ dX6_judge_19
theorem co_X6_judge {l : Launch} {G : mt_G} {fu : Nat} {σ : mt_St} {a1 : Int32} {r : Int32} {σf : mt_St}  (h : fX6_judge fu σ a1 = some (r, σf)) : mt_Con l G yX6_judge cX6_judge 3 (some .int) 3 [.ref (mt_adr G 56), .int a1] σ (some (.int r)) σf :=
  mt_con (by decide) (Nat.le_of_ble_eq_true rfl) (fun K hl hG hQ => by subst hl; subst hG; exact fun _ => vX6_judge  hQ h)
theorem dX6_image_0 : decode cX6_image 0 = .ok (.aload_n 0, 1) := by decide +kernel
theorem dX6_image_1 : decode cX6_image 1 = .ok (.getfield 9, 3) := by decide +kernel
theorem dX6_image_4 : decode cX6_image 4 = .ok (.aload_n 0, 1) := by decide +kernel
theorem dX6_image_5 : decode cX6_image 5 = .ok (.getfield 13, 3) := by decide +kernel
theorem dX6_image_8 : decode cX6_image 8 = .ok (.invokestatic 61, 3) := by decide +kernel
theorem dX6_image_11 : decode cX6_image 11 = .ok (.aload_n 0, 1) := by decide +kernel
theorem dX6_image_12 : decode cX6_image 12 = .ok (.iconst 1, 1) := by decide +kernel
theorem dX6_image_13 : decode cX6_image 13 = .ok (.putfield 316, 3) := by decide +kernel
theorem dX6_image_16 : decode cX6_image 16 = .ok (.iconst 1, 1) := by decide +kernel
theorem dX6_image_17 : decode cX6_image 17 = .ok (.ireturn, 1) := by decide +kernel
def fX6_image (fu : Nat) (σ : mt_St) : Option (Int32 × mt_St) :=
  mt_call (fX6_copyRow fu σ 57 58) fun _ s2 =>
  mt_bnd (mt_up s2 56 3 (1 : Int32)) fun s3 =>
  some ((1 : Int32), s3)
set_option maxHeartbeats 4000000 in
set_option maxRecDepth 20000 in
theorem vX6_image {K : mt_C} {fu : Nat} {σ : mt_St} {r : Int32} {σf : mt_St} (hQ : mt_R K (some .int) (some (.int r)) σf) : mt_V K cX6_image RX6 1 1 σ 0 [(0, .ref (mt_adr (kG K) 56))] [] (fX6_image fu σ = some (r, σf)) := by
  unfold fX6_image
  refine mv_aload_n 0 dX6_image_0 rfl rfl ?_
  refine mg_X6_0 fl_X6_9 dX6_image_1 ?_
  refine mv_aload_n 0 dX6_image_4 rfl rfl ?_
  refine mg_X6_1 fl_X6_13 dX6_image_5 ?_
  refine mv_cSwv (As := [.ref (mt_adr (kG K) 57), .ref (mt_adr (kG K) 58)]) (st := []) cal_X6_copyRow sta_X6_copyRow ml_X6_61 rfl (by decide) rfl (Nat.le_of_ble_eq_true rfl) dX6_image_8 (fun r s h => co_X6_copyRow rfl rfl rfl rfl h) (fun r1 s2 => ?_)
  refine mv_aload_n 0 dX6_image_11 rfl rfl ?_
  refine mv_iconst (v := 1) dX6_image_12 ic_1 ?_
  refine mz_X6_3 (by decide) fl_X6_316 dX6_image_13 (fun s3 => ?_)
  refine mv_iconst (v := 1) dX6_image_16 ic_1 ?_
  exact mv_iret hQ dX6_image_17
theorem co_X6_image {l : Launch} {G : mt_G} {fu : Nat} {σ : mt_St} {r : Int32} {σf : mt_St}  (h : fX6_image fu σ = some (r, σf)) : mt_Con l G yX6_image cX6_image 1 (some .int) 1 [.ref (mt_adr G 56)] σ (some (.int r)) σf :=
  mt_con (by decide) (Nat.le_of_ble_eq_true rfl) (fun K hl hG hQ => by subst hl; subst hG; exact fun _ => vX6_image  hQ h)
theorem dX6_undo_0 : decode cX6_undo 0 = .ok (.aload_n 0, 1) := by decide +kernel
theorem dX6_undo_1 : decode cX6_undo 1 = .ok (.getfield 316, 3) := by decide +kernel
theorem dX6_undo_4 : decode cX6_undo 4 = .ok (.ifCond .ne 10, 3) := by decide +kernel
theorem dX6_undo_7 : decode cX6_undo 7 = .ok (.aload_n 0, 1) := by decide +kernel
theorem dX6_undo_8 : decode cX6_undo 8 = .ok (.ldc 65, 2) := by decide +kernel
theorem dX6_undo_10 : decode cX6_undo 10 = .ok (.invokevirtual 66, 3) := by decide +kernel
theorem dX6_undo_13 : decode cX6_undo 13 = .ok (.ireturn, 1) := by decide +kernel
theorem dX6_undo_14 : decode cX6_undo 14 = .ok (.aload_n 0, 1) := by decide +kernel
theorem dX6_undo_15 : decode cX6_undo 15 = .ok (.getfield 13, 3) := by decide +kernel
theorem dX6_undo_18 : decode cX6_undo 18 = .ok (.aload_n 0, 1) := by decide +kernel
theorem dX6_undo_19 : decode cX6_undo 19 = .ok (.getfield 9, 3) := by decide +kernel
theorem dX6_undo_22 : decode cX6_undo 22 = .ok (.invokestatic 61, 3) := by decide +kernel
theorem dX6_undo_25 : decode cX6_undo 25 = .ok (.aload_n 0, 1) := by decide +kernel
theorem dX6_undo_26 : decode cX6_undo 26 = .ok (.getfield 9, 3) := by decide +kernel
theorem dX6_undo_29 : decode cX6_undo 29 = .ok (.iconst 0, 1) := by decide +kernel
theorem dX6_undo_30 : decode cX6_undo 30 = .ok (.iaload, 1) := by decide +kernel
theorem dX6_undo_31 : decode cX6_undo 31 = .ok (.ireturn, 1) := by decide +kernel
def fX6_undo (fu : Nat) (σ : mt_St) : Option (Int32 × mt_St) :=
  if (σ 56 3) = 0 then
    mt_call (fX6_finding fu σ (-1000004 : Int32)) fun r3 s4 =>
    some (r3, s4)
  else
    mt_call (fX6_copyRow fu σ 58 57) fun _ s2 =>
    some ((s2 57 0), s2)
set_option maxHeartbeats 4000000 in
set_option maxRecDepth 20000 in
theorem vX6_undo {K : mt_C} {fu : Nat} {σ : mt_St} {r : Int32} {σf : mt_St} (hQ : mt_R K (some .int) (some (.int r)) σf) : mt_V K cX6_undo RX6 1 1 σ 0 [(0, .ref (mt_adr (kG K) 56))] [] (fX6_undo fu σ = some (r, σf)) := by
  unfold fX6_undo
  refine mv_aload_n 0 dX6_undo_0 rfl rfl ?_
  refine mg_X6_3 fl_X6_316 dX6_undo_1 ?_
  refine mv_if_ne 14 dX6_undo_4 (by decide) ?_ ?_
  · refine mv_aload_n 0 dX6_undo_14 rfl rfl ?_
    refine mg_X6_1 fl_X6_13 dX6_undo_15 ?_
    refine mv_aload_n 0 dX6_undo_18 rfl rfl ?_
    refine mg_X6_0 fl_X6_9 dX6_undo_19 ?_
    refine mv_cSwv (As := [.ref (mt_adr (kG K) 58), .ref (mt_adr (kG K) 57)]) (st := []) cal_X6_copyRow sta_X6_copyRow ml_X6_61 rfl (by decide) rfl (Nat.le_of_ble_eq_true rfl) dX6_undo_22 (fun r s h => co_X6_copyRow rfl rfl rfl rfl h) (fun r1 s2 => ?_)
    refine mv_aload_n 0 dX6_undo_25 rfl rfl ?_
    refine mg_X6_0 fl_X6_9 dX6_undo_26 ?_
    refine mv_iconst (v := 0) dX6_undo_29 ic_0 ?_
    refine mv_ialdk 86 0 rfl rfl (by decide) (by decide) dX6_undo_30 ?_
    exact mv_iret hQ dX6_undo_31
  · refine mv_aload_n 0 dX6_undo_7 rfl rfl ?_
    refine mv_ldc kc_X6_65 dX6_undo_8 ?_
    refine mv_cVwi (As := [.int (-1000004 : Int32)]) (st := []) cal_X6_finding ins_X6_finding ml_X6_66 rfl (by decide) rfl rfl (by decide) rfl (Nat.le_of_ble_eq_true rfl) dX6_undo_10 (fun r s h => co_X6_finding h) (fun r3 s4 => ?_)
    exact mv_iret hQ dX6_undo_13
theorem co_X6_undo {l : Launch} {G : mt_G} {fu : Nat} {σ : mt_St} {r : Int32} {σf : mt_St}  (h : fX6_undo fu σ = some (r, σf)) : mt_Con l G yX6_undo cX6_undo 1 (some .int) 1 [.ref (mt_adr G 56)] σ (some (.int r)) σf :=
  mt_con (by decide) (Nat.le_of_ble_eq_true rfl) (fun K hl hG hQ => by subst hl; subst hG; exact fun _ => vX6_undo  hQ h)
theorem dX6_forget_0 : decode cX6_forget 0 = .ok (.aload_n 0, 1) := by decide +kernel
theorem dX6_forget_1 : decode cX6_forget 1 = .ok (.getfield 316, 3) := by decide +kernel
theorem dX6_forget_4 : decode cX6_forget 4 = .ok (.ifCond .eq 7, 3) := by decide +kernel
theorem dX6_forget_7 : decode cX6_forget 7 = .ok (.iconst 1, 1) := by decide +kernel
theorem dX6_forget_8 : decode cX6_forget 8 = .ok (.goto 4, 3) := by decide +kernel
theorem dX6_forget_11 : decode cX6_forget 11 = .ok (.iconst 0, 1) := by decide +kernel
theorem dX6_forget_12 : decode cX6_forget 12 = .ok (.istore_n 1, 1) := by decide +kernel
theorem dX6_forget_13 : decode cX6_forget 13 = .ok (.aload_n 0, 1) := by decide +kernel
theorem dX6_forget_14 : decode cX6_forget 14 = .ok (.iconst 0, 1) := by decide +kernel
theorem dX6_forget_15 : decode cX6_forget 15 = .ok (.putfield 316, 3) := by decide +kernel
theorem dX6_forget_18 : decode cX6_forget 18 = .ok (.iload_n 1, 1) := by decide +kernel
theorem dX6_forget_19 : decode cX6_forget 19 = .ok (.ireturn, 1) := by decide +kernel
def bX6_forget_12 (fu : Nat) (σ : mt_St) (y0 : Int32) : Option (Int32 × mt_St) :=
  mt_bnd (mt_up σ 56 3 (0 : Int32)) fun s1 =>
  some (y0, s1)
set_option maxHeartbeats 4000000 in
set_option maxRecDepth 20000 in
theorem vX6_forget_12 {K : mt_C} {fu : Nat} {r : Int32} {σf : mt_St} (hQ : mt_R K (some .int) (some (.int r)) σf) : ∀ (σ : mt_St) (y0 : Int32), mt_V K cX6_forget RX6 2 0 σ 12 [(0, .ref (mt_adr (kG K) 56))] [.int y0] (bX6_forget_12 fu σ y0 = some (r, σf)) := by
  intro σ y0
  unfold bX6_forget_12
  refine mv_istore_n (lv' := [(0, .ref (mt_adr (kG K) 56)), (1, .int y0)]) [1, 0] dX6_forget_12 rfl (by decide) rfl ?_
  refine mv_aload_n 0 dX6_forget_13 rfl rfl ?_
  refine mv_iconst (v := 0) dX6_forget_14 ic_0 ?_
  refine mz_X6_3 (by decide) fl_X6_316 dX6_forget_15 (fun s1 => ?_)
  refine mv_iload_n 1 dX6_forget_18 rfl rfl ?_
  exact mv_iret hQ dX6_forget_19
def fX6_forget (fu : Nat) (σ : mt_St) : Option (Int32 × mt_St) :=
  if (σ 56 3) = 0 then
    bX6_forget_12 fu σ (0 : Int32)
  else
    bX6_forget_12 fu σ (1 : Int32)
set_option maxHeartbeats 4000000 in
set_option maxRecDepth 20000 in
theorem vX6_forget {K : mt_C} {fu : Nat} {σ : mt_St} {r : Int32} {σf : mt_St} (hQ : mt_R K (some .int) (some (.int r)) σf) : mt_V K cX6_forget RX6 2 0 σ 0 [(0, .ref (mt_adr (kG K) 56))] [] (fX6_forget fu σ = some (r, σf)) := by
  unfold fX6_forget
  refine mv_aload_n 0 dX6_forget_0 rfl rfl ?_
  refine mg_X6_3 fl_X6_316 dX6_forget_1 ?_
  refine mv_if_eq 11 dX6_forget_4 (by decide) ?_ ?_
  · refine mv_iconst (v := 0) dX6_forget_11 ic_0 ?_
    exact vX6_forget_12 hQ σ (0 : Int32)
  · refine mv_iconst (v := 1) dX6_forget_7 ic_1 ?_
    refine mv_goto 12 dX6_forget_8 (by decide) ?_
    exact vX6_forget_12 hQ σ (1 : Int32)
theorem co_X6_forget {l : Launch} {G : mt_G} {fu : Nat} {σ : mt_St} {r : Int32} {σf : mt_St}  (h : fX6_forget fu σ = some (r, σf)) : mt_Con l G yX6_forget cX6_forget 2 (some .int) 0 [.ref (mt_adr G 56)] σ (some (.int r)) σf :=
  mt_con (by decide) (Nat.le_of_ble_eq_true rfl) (fun K hl hG hQ => by subst hl; subst hG; exact fun _ => vX6_forget  hQ h)
theorem dX6_count_0 : decode cX6_count 0 = .ok (.iconst 0, 1) := by decide +kernel
theorem dX6_count_1 : decode cX6_count 1 = .ok (.istore_n 2, 1) := by decide +kernel
theorem dX6_count_2 : decode cX6_count 2 = .ok (.iload_n 1, 1) := by decide +kernel
theorem dX6_count_3 : decode cX6_count 3 = .ok (.tableswitch 127 0 7 #[45, 52, 59, 65, 72, 79, 84, 91], 45) := by decide +kernel
theorem dX6_count_48 : decode cX6_count 48 = .ok (.aload_n 0, 1) := by decide +kernel
theorem dX6_count_49 : decode cX6_count 49 = .ok (.getfield 9, 3) := by decide +kernel
theorem dX6_count_52 : decode cX6_count 52 = .ok (.iconst 0, 1) := by decide +kernel
theorem dX6_count_53 : decode cX6_count 53 = .ok (.iaload, 1) := by decide +kernel
theorem dX6_count_54 : decode cX6_count 54 = .ok (.ireturn, 1) := by decide +kernel
theorem dX6_count_55 : decode cX6_count 55 = .ok (.aload_n 0, 1) := by decide +kernel
theorem dX6_count_56 : decode cX6_count 56 = .ok (.getfield 9, 3) := by decide +kernel
theorem dX6_count_59 : decode cX6_count 59 = .ok (.iconst 1, 1) := by decide +kernel
theorem dX6_count_60 : decode cX6_count 60 = .ok (.iaload, 1) := by decide +kernel
theorem dX6_count_61 : decode cX6_count 61 = .ok (.ireturn, 1) := by decide +kernel
theorem dX6_count_62 : decode cX6_count 62 = .ok (.aload_n 0, 1) := by decide +kernel
theorem dX6_count_63 : decode cX6_count 63 = .ok (.iconst 4, 1) := by decide +kernel
theorem dX6_count_64 : decode cX6_count 64 = .ok (.invokevirtual 171, 3) := by decide +kernel
theorem dX6_count_67 : decode cX6_count 67 = .ok (.ireturn, 1) := by decide +kernel
theorem dX6_count_68 : decode cX6_count 68 = .ok (.aload_n 0, 1) := by decide +kernel
theorem dX6_count_69 : decode cX6_count 69 = .ok (.getfield 9, 3) := by decide +kernel
theorem dX6_count_72 : decode cX6_count 72 = .ok (.iconst 3, 1) := by decide +kernel
theorem dX6_count_73 : decode cX6_count 73 = .ok (.iaload, 1) := by decide +kernel
theorem dX6_count_74 : decode cX6_count 74 = .ok (.ireturn, 1) := by decide +kernel
theorem dX6_count_75 : decode cX6_count 75 = .ok (.aload_n 0, 1) := by decide +kernel
theorem dX6_count_76 : decode cX6_count 76 = .ok (.bipush 7, 2) := by decide +kernel
theorem dX6_count_78 : decode cX6_count 78 = .ok (.invokevirtual 171, 3) := by decide +kernel
theorem dX6_count_81 : decode cX6_count 81 = .ok (.ireturn, 1) := by decide +kernel
theorem dX6_count_82 : decode cX6_count 82 = .ok (.aload_n 0, 1) := by decide +kernel
theorem dX6_count_83 : decode cX6_count 83 = .ok (.getfield 222, 3) := by decide +kernel
theorem dX6_count_86 : decode cX6_count 86 = .ok (.ireturn, 1) := by decide +kernel
theorem dX6_count_87 : decode cX6_count 87 = .ok (.aload_n 0, 1) := by decide +kernel
theorem dX6_count_88 : decode cX6_count 88 = .ok (.getfield 9, 3) := by decide +kernel
theorem dX6_count_91 : decode cX6_count 91 = .ok (.iconst 2, 1) := by decide +kernel
theorem dX6_count_92 : decode cX6_count 92 = .ok (.iaload, 1) := by decide +kernel
theorem dX6_count_93 : decode cX6_count 93 = .ok (.ireturn, 1) := by decide +kernel
theorem dX6_count_94 : decode cX6_count 94 = .ok (.iconst 0, 1) := by decide +kernel
theorem dX6_count_95 : decode cX6_count 95 = .ok (.istore_n 3, 1) := by decide +kernel
theorem dX6_count_96 : decode cX6_count 96 = .ok (.iload_n 3, 1) := by decide +kernel
theorem dX6_count_97 : decode cX6_count 97 = .ok (.bipush 10, 2) := by decide +kernel
theorem dX6_count_99 : decode cX6_count 99 = .ok (.if_icmp .ge 29, 3) := by decide +kernel
theorem dX6_count_102 : decode cX6_count 102 = .ok (.iload_n 2, 1) := by decide +kernel
theorem dX6_count_103 : decode cX6_count 103 = .ok (.aload_n 0, 1) := by decide +kernel
theorem dX6_count_104 : decode cX6_count 104 = .ok (.getfield 9, 3) := by decide +kernel
theorem dX6_count_107 : decode cX6_count 107 = .ok (.bipush 12, 2) := by decide +kernel
theorem dX6_count_109 : decode cX6_count 109 = .ok (.iload_n 3, 1) := by decide +kernel
theorem dX6_count_110 : decode cX6_count 110 = .ok (.iadd, 1) := by decide +kernel
theorem dX6_count_111 : decode cX6_count 111 = .ok (.iaload, 1) := by decide +kernel
theorem dX6_count_112 : decode cX6_count 112 = .ok (.ifCond .ge 7, 3) := by decide +kernel
theorem dX6_count_115 : decode cX6_count 115 = .ok (.iconst 0, 1) := by decide +kernel
theorem dX6_count_116 : decode cX6_count 116 = .ok (.goto 4, 3) := by decide +kernel
theorem dX6_count_119 : decode cX6_count 119 = .ok (.iconst 1, 1) := by decide +kernel
theorem dX6_count_120 : decode cX6_count 120 = .ok (.iadd, 1) := by decide +kernel
theorem dX6_count_121 : decode cX6_count 121 = .ok (.istore_n 2, 1) := by decide +kernel
theorem dX6_count_122 : decode cX6_count 122 = .ok (.iinc 3 1, 3) := by decide +kernel
theorem dX6_count_125 : decode cX6_count 125 = .ok (.goto (-29), 3) := by decide +kernel
theorem dX6_count_128 : decode cX6_count 128 = .ok (.iload_n 2, 1) := by decide +kernel
theorem dX6_count_129 : decode cX6_count 129 = .ok (.ireturn, 1) := by decide +kernel
theorem dX6_count_130 : decode cX6_count 130 = .ok (.aload_n 0, 1) := by decide +kernel
theorem dX6_count_131 : decode cX6_count 131 = .ok (.ldc 60, 2) := by decide +kernel
theorem dX6_count_133 : decode cX6_count 133 = .ok (.invokevirtual 66, 3) := by decide +kernel
theorem dX6_count_136 : decode cX6_count 136 = .ok (.ireturn, 1) := by decide +kernel
def bX6_count_120 (fu : Nat) (k96 : mt_St → Int32 → Int32 → Option (Int32 × mt_St)) (σ : mt_St) (x3 : Int32) (y0 : Int32) (y1 : Int32) : Option (Int32 × mt_St) :=
  k96 σ (y1 + y0) (x3 + 1)
set_option maxHeartbeats 4000000 in
set_option maxRecDepth 20000 in
theorem vX6_count_120 {K : mt_C} {fu : Nat} {r : Int32} {σf : mt_St} (hQ : mt_R K (some .int) (some (.int r)) σf) {k96 : mt_St → Int32 → Int32 → Option (Int32 × mt_St)} (hk96 : ∀ (s0 : mt_St) (x2 : Int32) (x3 : Int32), mt_V K cX6_count RX6 4 3 s0 96 [(0, .ref (mt_adr (kG K) 56)), (2, .int x2), (3, .int x3)] [] (k96 s0 x2 x3 = some (r, σf))) : ∀ (σ : mt_St) (x3 : Int32) (y0 : Int32) (y1 : Int32), mt_V K cX6_count RX6 4 3 σ 120 [(0, .ref (mt_adr (kG K) 56)), (3, .int x3)] [.int y0, .int y1] (bX6_count_120 fu k96 σ x3 y0 y1 = some (r, σf)) := by
  intro σ x3 y0 y1
  unfold bX6_count_120
  refine mv_iadd dX6_count_120 ?_
  refine mv_istore_n (lv' := [(0, .ref (mt_adr (kG K) 56)), (2, .int (y1 + y0)), (3, .int x3)]) [1, 0, 2] dX6_count_121 rfl (by decide) rfl ?_
  refine mv_iinc (k0 := 2) (v := x3 + 1) (lv' := [(0, .ref (mt_adr (kG K) 56)), (2, .int (y1 + y0)), (3, .int (x3 + 1))]) [1, 2, 0] dX6_count_122 rfl (mt_inc ic_1) (by decide) rfl ?_
  refine mv_goto 96 dX6_count_125 (by decide) ?_
  exact hk96 σ (y1 + y0) (x3 + 1)
def bX6_count_96 (fu : Nat) : Nat → mt_St → Int32 → Int32 → Option (Int32 × mt_St)
  | 0, _, _, _ => none
  | n + 1, σ, x2, x3 =>
    if (10 : Int32) ≤ x3 then
      some (x2, σ)
    else
      mt_chk (mt_in ((12 : Int32) + x3) 86) <|
      if 0 ≤ (σ 57 (Int32.toNatClampNeg ((12 : Int32) + x3))) then
        bX6_count_120 fu (fun s0 x2 x3 => bX6_count_96 fu n s0 x2 x3) σ x3 (1 : Int32) x2
      else
        bX6_count_120 fu (fun s0 x2 x3 => bX6_count_96 fu n s0 x2 x3) σ x3 (0 : Int32) x2
set_option maxHeartbeats 4000000 in
set_option maxRecDepth 20000 in
theorem vX6_count_96 {K : mt_C} {fu : Nat} {r : Int32} {σf : mt_St} (hQ : mt_R K (some .int) (some (.int r)) σf) : ∀ (n : Nat) (σ : mt_St) (x2 : Int32) (x3 : Int32), mt_V K cX6_count RX6 4 3 σ 96 [(0, .ref (mt_adr (kG K) 56)), (2, .int x2), (3, .int x3)] [] (bX6_count_96 fu n σ x2 x3 = some (r, σf)) := by
  intro n
  induction n with
  | zero => intro σ x2 x3; intro hP; unfold bX6_count_96 at hP; cases hP
  | succ n ih =>
    intro σ x2 x3
    unfold bX6_count_96
    refine mv_iload_n 2 dX6_count_96 rfl rfl ?_
    refine mv_bipush (v := 10) dX6_count_97 bp_10 ?_
    refine mv_icmp_ge 128 dX6_count_99 (by decide) ?_ ?_
    · refine mv_iload_n 1 dX6_count_128 rfl rfl ?_
      exact mv_iret hQ dX6_count_129
    · refine mv_iload_n 1 dX6_count_102 rfl rfl ?_
      refine mv_aload_n 0 dX6_count_103 rfl rfl ?_
      refine mg_X6_0 fl_X6_9 dX6_count_104 ?_
      refine mv_bipush (v := 12) dX6_count_107 bp_12 ?_
      refine mv_iload_n 2 dX6_count_109 rfl rfl ?_
      refine mv_iadd dX6_count_110 ?_
      refine mv_iald 86 rfl rfl dX6_count_111 ?_
      refine mv_if_ge 119 dX6_count_112 (by decide) ?_ ?_
      · refine mv_iconst (v := 1) dX6_count_119 ic_1 ?_
        refine mv_sub (lv' := [(0, .ref (mt_adr (kG K) 56)), (3, .int x3)]) [0, 2] rfl ?_
        exact vX6_count_120 hQ (fun s0 x2 x3 => ih s0 x2 x3) σ x3 (1 : Int32) x2
      · refine mv_iconst (v := 0) dX6_count_115 ic_0 ?_
        refine mv_goto 120 dX6_count_116 (by decide) ?_
        refine mv_sub (lv' := [(0, .ref (mt_adr (kG K) 56)), (3, .int x3)]) [0, 2] rfl ?_
        exact vX6_count_120 hQ (fun s0 x2 x3 => ih s0 x2 x3) σ x3 (0 : Int32) x2
def fX6_count (fu : Nat) (σ : mt_St) (a1 : Int32) : Option (Int32 × mt_St) :=
  if a1 = 0 then
    some ((σ 57 0), σ)
  else
  if a1 = 1 then
    some ((σ 57 1), σ)
  else
  if a1 = 2 then
    mt_ask (fX6_sumOf fu σ (4 : Int32)) fun r1 =>
    some (r1, σ)
  else
  if a1 = 3 then
    some ((σ 57 3), σ)
  else
  if a1 = 4 then
    mt_ask (fX6_sumOf fu σ (7 : Int32)) fun r2 =>
    some (r2, σ)
  else
  if a1 = 5 then
    some ((σ 56 7), σ)
  else
  if a1 = 6 then
    some ((σ 57 2), σ)
  else
  if a1 = 7 then
    bX6_count_96 fu fu σ (0 : Int32) (0 : Int32)
  else
  mt_call (fX6_finding fu σ (-1000001 : Int32)) fun r3 s4 =>
  some (r3, s4)
set_option maxHeartbeats 4000000 in
set_option maxRecDepth 20000 in
theorem vX6_count {K : mt_C} {fu : Nat} {σ : mt_St} {a1 : Int32} {r : Int32} {σf : mt_St} (hQ : mt_R K (some .int) (some (.int r)) σf) : mt_V K cX6_count RX6 4 3 σ 0 [(0, .ref (mt_adr (kG K) 56)), (1, .int a1)] [] (fX6_count fu σ a1 = some (r, σf)) := by
  unfold fX6_count
  refine mv_iconst (v := 0) dX6_count_0 ic_0 ?_
  refine mv_istore_n (lv' := [(0, .ref (mt_adr (kG K) 56)), (1, .int a1), (2, .int (0 : Int32))]) [1, 2, 0] dX6_count_1 rfl (by decide) rfl ?_
  refine mv_iload_n 1 dX6_count_2 rfl rfl ?_
  refine mv_case (fun e0 => ?_) (fun n0 => ?_)
  · refine mv_tsin 0 48 e0 dX6_count_3 (by decide) (by decide) rfl (by decide) ?_
    refine mv_aload_n 0 dX6_count_48 rfl rfl ?_
    refine mg_X6_0 fl_X6_9 dX6_count_49 ?_
    refine mv_iconst (v := 0) dX6_count_52 ic_0 ?_
    refine mv_ialdk 86 0 rfl rfl (by decide) (by decide) dX6_count_53 ?_
    exact mv_iret hQ dX6_count_54
  refine mv_case (fun e1 => ?_) (fun n1 => ?_)
  · refine mv_tsin 1 55 e1 dX6_count_3 (by decide) (by decide) rfl (by decide) ?_
    refine mv_aload_n 0 dX6_count_55 rfl rfl ?_
    refine mg_X6_0 fl_X6_9 dX6_count_56 ?_
    refine mv_iconst (v := 1) dX6_count_59 ic_1 ?_
    refine mv_ialdk 86 1 rfl rfl (by decide) (by decide) dX6_count_60 ?_
    exact mv_iret hQ dX6_count_61
  refine mv_case (fun e2 => ?_) (fun n2 => ?_)
  · refine mv_tsin 2 62 e2 dX6_count_3 (by decide) (by decide) rfl (by decide) ?_
    refine mv_aload_n 0 dX6_count_62 rfl rfl ?_
    refine mv_iconst (v := 4) dX6_count_63 ic_4 ?_
    refine mv_cVri (As := [.int (4 : Int32)]) (st := []) cal_X6_sumOf ins_X6_sumOf ml_X6_171 rfl (by decide) rfl rfl (by decide) rfl (Nat.le_of_ble_eq_true rfl) dX6_count_64 (fun r h => co_X6_sumOf h) (fun r1 => ?_)
    exact mv_iret hQ dX6_count_67
  refine mv_case (fun e3 => ?_) (fun n3 => ?_)
  · refine mv_tsin 3 68 e3 dX6_count_3 (by decide) (by decide) rfl (by decide) ?_
    refine mv_aload_n 0 dX6_count_68 rfl rfl ?_
    refine mg_X6_0 fl_X6_9 dX6_count_69 ?_
    refine mv_iconst (v := 3) dX6_count_72 ic_3 ?_
    refine mv_ialdk 86 3 rfl rfl (by decide) (by decide) dX6_count_73 ?_
    exact mv_iret hQ dX6_count_74
  refine mv_case (fun e4 => ?_) (fun n4 => ?_)
  · refine mv_tsin 4 75 e4 dX6_count_3 (by decide) (by decide) rfl (by decide) ?_
    refine mv_aload_n 0 dX6_count_75 rfl rfl ?_
    refine mv_bipush (v := 7) dX6_count_76 bp_7 ?_
    refine mv_cVri (As := [.int (7 : Int32)]) (st := []) cal_X6_sumOf ins_X6_sumOf ml_X6_171 rfl (by decide) rfl rfl (by decide) rfl (Nat.le_of_ble_eq_true rfl) dX6_count_78 (fun r h => co_X6_sumOf h) (fun r2 => ?_)
    exact mv_iret hQ dX6_count_81
  refine mv_case (fun e5 => ?_) (fun n5 => ?_)
  · refine mv_tsin 5 82 e5 dX6_count_3 (by decide) (by decide) rfl (by decide) ?_
    refine mv_aload_n 0 dX6_count_82 rfl rfl ?_
    refine mg_X6_7 fl_X6_222 dX6_count_83 ?_
    exact mv_iret hQ dX6_count_86
  refine mv_case (fun e6 => ?_) (fun n6 => ?_)
  · refine mv_tsin 6 87 e6 dX6_count_3 (by decide) (by decide) rfl (by decide) ?_
    refine mv_aload_n 0 dX6_count_87 rfl rfl ?_
    refine mg_X6_0 fl_X6_9 dX6_count_88 ?_
    refine mv_iconst (v := 2) dX6_count_91 ic_2 ?_
    refine mv_ialdk 86 2 rfl rfl (by decide) (by decide) dX6_count_92 ?_
    exact mv_iret hQ dX6_count_93
  refine mv_case (fun e7 => ?_) (fun n7 => ?_)
  · refine mv_tsin 7 94 e7 dX6_count_3 (by decide) (by decide) rfl (by decide) ?_
    refine mv_iconst (v := 0) dX6_count_94 ic_0 ?_
    refine mv_istore_n (lv' := [(0, .ref (mt_adr (kG K) 56)), (2, .int (0 : Int32)), (3, .int (0 : Int32))]) [1, 3, 0] dX6_count_95 rfl (by decide) rfl ?_
    exact vX6_count_96 hQ fu σ (0 : Int32) (0 : Int32)
  refine mv_tsout 130 (by have z0 := mt_ne (z := 0) n0 (by decide); have z1 := mt_ne (z := 1) n1 (by decide); have z2 := mt_ne (z := 2) n2 (by decide); have z3 := mt_ne (z := 3) n3 (by decide); have z4 := mt_ne (z := 4) n4 (by decide); have z5 := mt_ne (z := 5) n5 (by decide); have z6 := mt_ne (z := 6) n6 (by decide); have z7 := mt_ne (z := 7) n7 (by decide); omega) dX6_count_3 (by decide) ?_
  refine mv_aload_n 0 dX6_count_130 rfl rfl ?_
  refine mv_ldc kc_X6_60 dX6_count_131 ?_
  refine mv_cVwi (As := [.int (-1000001 : Int32)]) (st := []) cal_X6_finding ins_X6_finding ml_X6_66 rfl (by decide) rfl rfl (by decide) rfl (Nat.le_of_ble_eq_true rfl) dX6_count_133 (fun r s h => co_X6_finding h) (fun r3 s4 => ?_)
  exact mv_iret hQ dX6_count_136
theorem co_X6_count {l : Launch} {G : mt_G} {fu : Nat} {σ : mt_St} {a1 : Int32} {r : Int32} {σf : mt_St}  (h : fX6_count fu σ a1 = some (r, σf)) : mt_Con l G yX6_count cX6_count 4 (some .int) 3 [.ref (mt_adr G 56), .int a1] σ (some (.int r)) σf :=
  mt_con (by decide) (Nat.le_of_ble_eq_true rfl) (fun K hl hG hQ => by subst hl; subst hG; exact fun _ => vX6_count  hQ h)
theorem dX6_status_0 : decode cX6_status 0 = .ok (.iload_n 1, 1) := by decide +kernel
theorem dX6_status_1 : decode cX6_status 1 = .ok (.iconst (-1), 1) := by decide +kernel
theorem dX6_status_2 : decode cX6_status 2 = .ok (.bipush 6, 2) := by decide +kernel
theorem dX6_status_4 : decode cX6_status 4 = .ok (.invokestatic 70, 3) := by decide +kernel
theorem dX6_status_7 : decode cX6_status 7 = .ok (.ifCond .eq 14, 3) := by decide +kernel
theorem dX6_status_10 : decode cX6_status 10 = .ok (.aload_n 0, 1) := by decide +kernel
theorem dX6_status_11 : decode cX6_status 11 = .ok (.getfield 19, 3) := by decide +kernel
theorem dX6_status_14 : decode cX6_status 14 = .ok (.iload_n 1, 1) := by decide +kernel
theorem dX6_status_15 : decode cX6_status 15 = .ok (.iconst 1, 1) := by decide +kernel
theorem dX6_status_16 : decode cX6_status 16 = .ok (.iadd, 1) := by decide +kernel
theorem dX6_status_17 : decode cX6_status 17 = .ok (.iaload, 1) := by decide +kernel
theorem dX6_status_18 : decode cX6_status 18 = .ok (.goto 9, 3) := by decide +kernel
theorem dX6_status_21 : decode cX6_status 21 = .ok (.aload_n 0, 1) := by decide +kernel
theorem dX6_status_22 : decode cX6_status 22 = .ok (.ldc 60, 2) := by decide +kernel
theorem dX6_status_24 : decode cX6_status 24 = .ok (.invokevirtual 66, 3) := by decide +kernel
theorem dX6_status_27 : decode cX6_status 27 = .ok (.ireturn, 1) := by decide +kernel
def bX6_status_27 (fu : Nat) (σ : mt_St) (y0 : Int32) : Option (Int32 × mt_St) :=
  some (y0, σ)
set_option maxHeartbeats 4000000 in
set_option maxRecDepth 20000 in
theorem vX6_status_27 {K : mt_C} {fu : Nat} {r : Int32} {σf : mt_St} (hQ : mt_R K (some .int) (some (.int r)) σf) : ∀ (σ : mt_St) (y0 : Int32), mt_V K cX6_status RX6 2 1 σ 27 [] [.int y0] (bX6_status_27 fu σ y0 = some (r, σf)) := by
  intro σ y0
  unfold bX6_status_27
  exact mv_iret hQ dX6_status_27
def fX6_status (fu : Nat) (σ : mt_St) (a1 : Int32) : Option (Int32 × mt_St) :=
  mt_ask (fX6_within fu a1 (-1 : Int32) (6 : Int32)) fun r1 =>
  if r1 = 0 then
    mt_call (fX6_finding fu σ (-1000001 : Int32)) fun r2 s3 =>
    bX6_status_27 fu s3 r2
  else
    mt_chk (mt_in (a1 + (1 : Int32)) 8) <|
    bX6_status_27 fu σ (σ 60 (Int32.toNatClampNeg (a1 + (1 : Int32))))
set_option maxHeartbeats 4000000 in
set_option maxRecDepth 20000 in
theorem vX6_status {K : mt_C} {fu : Nat} {σ : mt_St} {a1 : Int32} {r : Int32} {σf : mt_St} (hQ : mt_R K (some .int) (some (.int r)) σf) : mt_V K cX6_status RX6 2 1 σ 0 [(0, .ref (mt_adr (kG K) 56)), (1, .int a1)] [] (fX6_status fu σ a1 = some (r, σf)) := by
  unfold fX6_status
  refine mv_iload_n 1 dX6_status_0 rfl rfl ?_
  refine mv_iconst (v := -1) dX6_status_1 ic_m1 ?_
  refine mv_bipush (v := 6) dX6_status_2 bp_6 ?_
  refine mv_cSri (As := [.int a1, .int (-1 : Int32), .int (6 : Int32)]) (st := []) cal_X6_within sta_X6_within ml_X6_70 rfl (by decide) rfl (Nat.le_of_ble_eq_true rfl) dX6_status_4 (fun r h => co_X6_within h) (fun r1 => ?_)
  refine mv_if_eq 21 dX6_status_7 (by decide) ?_ ?_
  · refine mv_aload_n 0 dX6_status_21 rfl rfl ?_
    refine mv_ldc kc_X6_60 dX6_status_22 ?_
    refine mv_cVwi (As := [.int (-1000001 : Int32)]) (st := []) cal_X6_finding ins_X6_finding ml_X6_66 rfl (by decide) rfl rfl (by decide) rfl (Nat.le_of_ble_eq_true rfl) dX6_status_24 (fun r s h => co_X6_finding h) (fun r2 s3 => ?_)
    refine mv_sub (lv' := []) [] rfl ?_
    exact vX6_status_27 hQ s3 r2
  · refine mv_aload_n 0 dX6_status_10 rfl rfl ?_
    refine mg_X6_4 fl_X6_19 dX6_status_11 ?_
    refine mv_iload_n 1 dX6_status_14 rfl rfl ?_
    refine mv_iconst (v := 1) dX6_status_15 ic_1 ?_
    refine mv_iadd dX6_status_16 ?_
    refine mv_iald 8 rfl rfl dX6_status_17 ?_
    refine mv_goto 27 dX6_status_18 (by decide) ?_
    refine mv_sub (lv' := []) [] rfl ?_
    exact vX6_status_27 hQ σ (σ 60 (Int32.toNatClampNeg (a1 + (1 : Int32))))
theorem co_X6_status {l : Launch} {G : mt_G} {fu : Nat} {σ : mt_St} {a1 : Int32} {r : Int32} {σf : mt_St}  (h : fX6_status fu σ a1 = some (r, σf)) : mt_Con l G yX6_status cX6_status 2 (some .int) 1 [.ref (mt_adr G 56), .int a1] σ (some (.int r)) σf :=
  mt_con (by decide) (Nat.le_of_ble_eq_true rfl) (fun K hl hG hQ => by subst hl; subst hG; exact fun _ => vX6_status  hQ h)
