theorem kd_w1 : ∀ {w : Nat}, mt_kd w = 4 → mt_kd (w + 1) = 7 := fun {w} h => (show ∀ w, w < 68 → mt_kd w = 4 → mt_kd (w + 1) = 7 by decide) w (mt_lt h (by decide)) h
theorem kd_w2 : ∀ {w : Nat}, mt_kd w = 4 → mt_kd (w + 2) = 9 := fun {w} h => (show ∀ w, w < 68 → mt_kd w = 4 → mt_kd (w + 2) = 9 by decide) w (mt_lt h (by decide)) h
theorem kd_w3 : ∀ {w : Nat}, mt_kd w = 4 → mt_kd (w + 3) = 7 := fun {w} h => (show ∀ w, w < 68 → mt_kd w = 4 → mt_kd (w + 3) = 7 by decide) w (mt_lt h (by decide)) h
theorem ln_w1 : ∀ {w : Nat}, mt_kd w = 4 → mt_ln (w + 1) = 6 := fun {w} h => (show ∀ w, w < 68 → mt_kd w = 4 → mt_ln (w + 1) = 6 by decide) w (mt_lt h (by decide)) h
theorem ln_w2 : ∀ {w : Nat}, mt_kd w = 4 → mt_ln (w + 2) = 8 := fun {w} h => (show ∀ w, w < 68 → mt_kd w = 4 → mt_ln (w + 2) = 8 by decide) w (mt_lt h (by decide)) h
theorem ln_w3 : ∀ {w : Nat}, mt_kd w = 4 → mt_ln (w + 3) = 10 := fun {w} h => (show ∀ w, w < 68 → mt_kd w = 4 → mt_ln (w + 3) = 10 by decide) w (mt_lt h (by decide)) h
theorem kd_sh : ∀ {w : Nat}, mt_kd w = 1 → mt_kd (w + 4) = 7 := fun {w} h => (show ∀ w, w < 68 → mt_kd w = 1 → mt_kd (w + 4) = 7 by decide) w (mt_lt h (by decide)) h
theorem ln_sh : ∀ {w : Nat}, mt_kd w = 1 → mt_ln (w + 4) = 40 := fun {w} h => (show ∀ w, w < 68 → mt_kd w = 1 → mt_ln (w + 4) = 40 by decide) w (mt_lt h (by decide)) h
theorem mt_cl_lt {i : Int32} {n : Nat} (h : mt_in i n = true) : i.toNatClampNeg < n := by
  have := mt_in_iff.mp h
  exact Nat.not_le.mp fun q => this (Or.inr q)
theorem kd_tr {c : Nat} {i : Int32} (h : mt_kd c = 9) (hi : mt_in i 8 = true) : mt_kd (c + 2 + i.toNatClampNeg) = 3 := (show ∀ c, c < 68 → mt_kd c = 9 → ∀ j, j < 8 → mt_kd (c + 2 + j) = 3 by decide) c (mt_lt h (by decide)) h _ (mt_cl_lt hi)
theorem kd_st {c : Nat} {i : Int32} (h : mt_kd c = 10) (hi : mt_in i 4 = true) : mt_kd (c + 1 + i.toNatClampNeg) = 1 := (show ∀ c, c < 68 → mt_kd c = 10 → ∀ j, j < 4 → mt_kd (c + 1 + j) = 1 by decide) c (mt_lt h (by decide)) h _ (mt_cl_lt hi)
theorem st_lt {i : Int32} (hi : mt_in i 7 = true) : i.toNatClampNeg < 13 := Nat.lt_of_lt_of_le (mt_cl_lt hi) (by decide)
theorem mt_inc {x : Int32} {n : Int} {v : Int32} (h : Int32.ofInt n = v) : x + Int32.ofInt n = x + v := by rw [h]
section MF
variable {K : mt_C} {cc : ByteArray} {own : String} {nL d : Nat} {σ : mt_St} {pc : Nat} {lv : List (Nat × Value)} {st : List Value} {P : Prop}
theorem mg_X0_0 {idx : Nat} (hw : mt_fl own idx TX0 0) (hd : decode cc pc = .ok (.getfield idx, 3)) (kk : mt_V K cc own nL d σ (pc + 3) lv (.ref (mt_adr (kG K) 45) :: st) P) : mt_V K cc own nL d σ pc lv (.ref (mt_adr (kG K) 44) :: st) P :=
  mv_getf (ci := 0) (k := 0) rfl in_X0 (mt_lt (show mt_kd 44 = 0 from rfl) (by decide)) (mt_E0 (show mt_kd 44 = 0 from rfl)) (by decide) hw rfl hd kk
theorem mg_X0_1 {idx : Nat} (hw : mt_fl own idx TX0 1) (hd : decode cc pc = .ok (.getfield idx, 3)) (kk : mt_V K cc own nL d σ (pc + 3) lv (.int (σ 44 1) :: st) P) : mt_V K cc own nL d σ pc lv (.ref (mt_adr (kG K) 44) :: st) P :=
  mv_getf (ci := 0) (k := 1) rfl in_X0 (mt_lt (show mt_kd 44 = 0 from rfl) (by decide)) (mt_E0 (show mt_kd 44 = 0 from rfl)) (by decide) hw rfl hd kk
theorem mp_X0_1 {β : Type} {idx : Nat} {v : Int32} {kf : mt_St → Option β} {o : Option β} (hw : mt_fl own idx TX0 1) (hd : decode cc pc = .ok (.putfield idx, 3)) (kk : ∀ σ1, mt_V K cc own nL d σ1 (pc + 3) lv st (kf σ1 = o)) : mt_V K cc own nL d σ pc lv (.int v :: .ref (mt_adr (kG K) 44) :: st) (mt_bnd (mt_up σ 44 1 v) kf = o) :=
  mv_putf (ci := 0) (k := 1) (ty := .int) rfl in_X0 tyX0_ok nmX0 (mt_lt (show mt_kd 44 = 0 from rfl) (by decide)) (mt_E0 (show mt_kd 44 = 0 from rfl)) ((mt_E0 (show mt_kd 44 = 0 from rfl)).trans rfl) (by decide) hw rfl (tyX0_ok 1 (by decide)) rfl rfl (Nat.le_of_ble_eq_true rfl) hd kk
theorem mg_X0_2 {idx : Nat} (hw : mt_fl own idx TX0 2) (hd : decode cc pc = .ok (.getfield idx, 3)) (kk : mt_V K cc own nL d σ (pc + 3) lv (.int (σ 44 2) :: st) P) : mt_V K cc own nL d σ pc lv (.ref (mt_adr (kG K) 44) :: st) P :=
  mv_getf (ci := 0) (k := 2) rfl in_X0 (mt_lt (show mt_kd 44 = 0 from rfl) (by decide)) (mt_E0 (show mt_kd 44 = 0 from rfl)) (by decide) hw rfl hd kk
theorem mp_X0_2 {β : Type} {idx : Nat} {v : Int32} {kf : mt_St → Option β} {o : Option β} (hw : mt_fl own idx TX0 2) (hd : decode cc pc = .ok (.putfield idx, 3)) (kk : ∀ σ1, mt_V K cc own nL d σ1 (pc + 3) lv st (kf σ1 = o)) : mt_V K cc own nL d σ pc lv (.int v :: .ref (mt_adr (kG K) 44) :: st) (mt_bnd (mt_up σ 44 2 v) kf = o) :=
  mv_putf (ci := 0) (k := 2) (ty := .int) rfl in_X0 tyX0_ok nmX0 (mt_lt (show mt_kd 44 = 0 from rfl) (by decide)) (mt_E0 (show mt_kd 44 = 0 from rfl)) ((mt_E0 (show mt_kd 44 = 0 from rfl)).trans rfl) (by decide) hw rfl (tyX0_ok 2 (by decide)) rfl rfl (Nat.le_of_ble_eq_true rfl) hd kk
theorem mg_X0_3 {idx : Nat} (hw : mt_fl own idx TX0 3) (hd : decode cc pc = .ok (.getfield idx, 3)) (kk : mt_V K cc own nL d σ (pc + 3) lv (.int (σ 44 3) :: st) P) : mt_V K cc own nL d σ pc lv (.ref (mt_adr (kG K) 44) :: st) P :=
  mv_getf (ci := 0) (k := 3) rfl in_X0 (mt_lt (show mt_kd 44 = 0 from rfl) (by decide)) (mt_E0 (show mt_kd 44 = 0 from rfl)) (by decide) hw rfl hd kk
theorem mp_X0_3 {β : Type} {idx : Nat} {v : Int32} {kf : mt_St → Option β} {o : Option β} (hw : mt_fl own idx TX0 3) (hd : decode cc pc = .ok (.putfield idx, 3)) (kk : ∀ σ1, mt_V K cc own nL d σ1 (pc + 3) lv st (kf σ1 = o)) : mt_V K cc own nL d σ pc lv (.int v :: .ref (mt_adr (kG K) 44) :: st) (mt_bnd (mt_up σ 44 3 v) kf = o) :=
  mv_putf (ci := 0) (k := 3) (ty := .int) rfl in_X0 tyX0_ok nmX0 (mt_lt (show mt_kd 44 = 0 from rfl) (by decide)) (mt_E0 (show mt_kd 44 = 0 from rfl)) ((mt_E0 (show mt_kd 44 = 0 from rfl)).trans rfl) (by decide) hw rfl (tyX0_ok 3 (by decide)) rfl rfl (Nat.le_of_ble_eq_true rfl) hd kk
theorem mg_X0_4 {idx : Nat} (hw : mt_fl own idx TX0 4) (hd : decode cc pc = .ok (.getfield idx, 3)) (kk : mt_V K cc own nL d σ (pc + 3) lv (.int (σ 44 4) :: st) P) : mt_V K cc own nL d σ pc lv (.ref (mt_adr (kG K) 44) :: st) P :=
  mv_getf (ci := 0) (k := 4) rfl in_X0 (mt_lt (show mt_kd 44 = 0 from rfl) (by decide)) (mt_E0 (show mt_kd 44 = 0 from rfl)) (by decide) hw rfl hd kk
theorem mp_X0_4 {β : Type} {idx : Nat} {v : Int32} {kf : mt_St → Option β} {o : Option β} (hw : mt_fl own idx TX0 4) (hd : decode cc pc = .ok (.putfield idx, 3)) (kk : ∀ σ1, mt_V K cc own nL d σ1 (pc + 3) lv st (kf σ1 = o)) : mt_V K cc own nL d σ pc lv (.int v :: .ref (mt_adr (kG K) 44) :: st) (mt_bnd (mt_up σ 44 4 v) kf = o) :=
  mv_putf (ci := 0) (k := 4) (ty := .int) rfl in_X0 tyX0_ok nmX0 (mt_lt (show mt_kd 44 = 0 from rfl) (by decide)) (mt_E0 (show mt_kd 44 = 0 from rfl)) ((mt_E0 (show mt_kd 44 = 0 from rfl)).trans rfl) (by decide) hw rfl (tyX0_ok 4 (by decide)) rfl rfl (Nat.le_of_ble_eq_true rfl) hd kk
theorem mg_X0_5 {idx : Nat} (hw : mt_fl own idx TX0 5) (hd : decode cc pc = .ok (.getfield idx, 3)) (kk : mt_V K cc own nL d σ (pc + 3) lv (.int (σ 44 5) :: st) P) : mt_V K cc own nL d σ pc lv (.ref (mt_adr (kG K) 44) :: st) P :=
  mv_getf (ci := 0) (k := 5) rfl in_X0 (mt_lt (show mt_kd 44 = 0 from rfl) (by decide)) (mt_E0 (show mt_kd 44 = 0 from rfl)) (by decide) hw rfl hd kk
theorem mp_X0_5 {β : Type} {idx : Nat} {v : Int32} {kf : mt_St → Option β} {o : Option β} (hw : mt_fl own idx TX0 5) (hd : decode cc pc = .ok (.putfield idx, 3)) (kk : ∀ σ1, mt_V K cc own nL d σ1 (pc + 3) lv st (kf σ1 = o)) : mt_V K cc own nL d σ pc lv (.int v :: .ref (mt_adr (kG K) 44) :: st) (mt_bnd (mt_up σ 44 5 v) kf = o) :=
  mv_putf (ci := 0) (k := 5) (ty := .int) rfl in_X0 tyX0_ok nmX0 (mt_lt (show mt_kd 44 = 0 from rfl) (by decide)) (mt_E0 (show mt_kd 44 = 0 from rfl)) ((mt_E0 (show mt_kd 44 = 0 from rfl)).trans rfl) (by decide) hw rfl (tyX0_ok 5 (by decide)) rfl rfl (Nat.le_of_ble_eq_true rfl) hd kk
theorem mg_X1_0 {c : Nat} {idx : Nat} (hk : mt_kd c = 1) (hw : mt_fl own idx TX1 0) (hd : decode cc pc = .ok (.getfield idx, 3)) (kk : mt_V K cc own nL d σ (pc + 3) lv (.int (σ c 0) :: st) P) : mt_V K cc own nL d σ pc lv (.ref (mt_adr (kG K) c) :: st) P :=
  mv_getf (ci := 1) (k := 0) rfl in_X1 (mt_lt hk (by decide)) (mt_E1 hk) (by decide) hw rfl hd kk
theorem mp_X1_0 {β : Type} {c : Nat} {idx : Nat} {v : Int32} {kf : mt_St → Option β} {o : Option β} (hk : mt_kd c = 1) (hw : mt_fl own idx TX1 0) (hd : decode cc pc = .ok (.putfield idx, 3)) (kk : ∀ σ1, mt_V K cc own nL d σ1 (pc + 3) lv st (kf σ1 = o)) : mt_V K cc own nL d σ pc lv (.int v :: .ref (mt_adr (kG K) c) :: st) (mt_bnd (mt_up σ c 0 v) kf = o) :=
  mv_putf (ci := 1) (k := 0) (ty := .int) rfl in_X1 tyX1_ok nmX1 (mt_lt hk (by decide)) (mt_E1 hk) ((mt_E1 hk).trans rfl) (by decide) hw rfl (tyX1_ok 0 (by decide)) rfl rfl (Nat.le_of_ble_eq_true rfl) hd kk
theorem mg_X1_1 {c : Nat} {idx : Nat} (hk : mt_kd c = 1) (hw : mt_fl own idx TX1 1) (hd : decode cc pc = .ok (.getfield idx, 3)) (kk : mt_V K cc own nL d σ (pc + 3) lv (.int (σ c 1) :: st) P) : mt_V K cc own nL d σ pc lv (.ref (mt_adr (kG K) c) :: st) P :=
  mv_getf (ci := 1) (k := 1) rfl in_X1 (mt_lt hk (by decide)) (mt_E1 hk) (by decide) hw rfl hd kk
theorem mp_X1_1 {β : Type} {c : Nat} {idx : Nat} {v : Int32} {kf : mt_St → Option β} {o : Option β} (hk : mt_kd c = 1) (hw : mt_fl own idx TX1 1) (hd : decode cc pc = .ok (.putfield idx, 3)) (kk : ∀ σ1, mt_V K cc own nL d σ1 (pc + 3) lv st (kf σ1 = o)) : mt_V K cc own nL d σ pc lv (.int v :: .ref (mt_adr (kG K) c) :: st) (mt_bnd (mt_up σ c 1 v) kf = o) :=
  mv_putf (ci := 1) (k := 1) (ty := .int) rfl in_X1 tyX1_ok nmX1 (mt_lt hk (by decide)) (mt_E1 hk) ((mt_E1 hk).trans rfl) (by decide) hw rfl (tyX1_ok 1 (by decide)) rfl rfl (Nat.le_of_ble_eq_true rfl) hd kk
theorem mg_X1_2 {c : Nat} {idx : Nat} (hk : mt_kd c = 1) (hw : mt_fl own idx TX1 2) (hd : decode cc pc = .ok (.getfield idx, 3)) (kk : mt_V K cc own nL d σ (pc + 3) lv (.ref (mt_adr (kG K) (c + 4)) :: st) P) : mt_V K cc own nL d σ pc lv (.ref (mt_adr (kG K) c) :: st) P :=
  mv_getf (ci := 1) (k := 2) rfl in_X1 (mt_lt hk (by decide)) (mt_E1 hk) (by decide) hw rfl hd kk
theorem mg_X2_0 {idx : Nat} (hw : mt_fl own idx TX2 0) (hd : decode cc pc = .ok (.getfield idx, 3)) (kk : mt_V K cc own nL d σ (pc + 3) lv (.ref (mt_adr (kG K) 40) :: st) P) : mt_V K cc own nL d σ pc lv (.ref (mt_adr (kG K) 39) :: st) P :=
  mv_getf (ci := 2) (k := 0) rfl in_X2 (mt_lt (show mt_kd 39 = 2 from rfl) (by decide)) (mt_E2 (show mt_kd 39 = 2 from rfl)) (by decide) hw rfl hd kk
theorem mg_X2_1 {idx : Nat} (hw : mt_fl own idx TX2 1) (hd : decode cc pc = .ok (.getfield idx, 3)) (kk : mt_V K cc own nL d σ (pc + 3) lv (.ref (mt_adr (kG K) 41) :: st) P) : mt_V K cc own nL d σ pc lv (.ref (mt_adr (kG K) 39) :: st) P :=
  mv_getf (ci := 2) (k := 1) rfl in_X2 (mt_lt (show mt_kd 39 = 2 from rfl) (by decide)) (mt_E2 (show mt_kd 39 = 2 from rfl)) (by decide) hw rfl hd kk
theorem mg_X2_2 {idx : Nat} (hw : mt_fl own idx TX2 2) (hd : decode cc pc = .ok (.getfield idx, 3)) (kk : mt_V K cc own nL d σ (pc + 3) lv (.int (σ 39 2) :: st) P) : mt_V K cc own nL d σ pc lv (.ref (mt_adr (kG K) 39) :: st) P :=
  mv_getf (ci := 2) (k := 2) rfl in_X2 (mt_lt (show mt_kd 39 = 2 from rfl) (by decide)) (mt_E2 (show mt_kd 39 = 2 from rfl)) (by decide) hw rfl hd kk
theorem mp_X2_2 {β : Type} {idx : Nat} {v : Int32} {kf : mt_St → Option β} {o : Option β} (hw : mt_fl own idx TX2 2) (hd : decode cc pc = .ok (.putfield idx, 3)) (kk : ∀ σ1, mt_V K cc own nL d σ1 (pc + 3) lv st (kf σ1 = o)) : mt_V K cc own nL d σ pc lv (.int v :: .ref (mt_adr (kG K) 39) :: st) (mt_bnd (mt_up σ 39 2 v) kf = o) :=
  mv_putf (ci := 2) (k := 2) (ty := .int) rfl in_X2 tyX2_ok nmX2 (mt_lt (show mt_kd 39 = 2 from rfl) (by decide)) (mt_E2 (show mt_kd 39 = 2 from rfl)) ((mt_E2 (show mt_kd 39 = 2 from rfl)).trans rfl) (by decide) hw rfl (tyX2_ok 2 (by decide)) rfl rfl (Nat.le_of_ble_eq_true rfl) hd kk
theorem mg_X3_0 {c : Nat} {idx : Nat} (hk : mt_kd c = 3) (hw : mt_fl own idx TX3 0) (hd : decode cc pc = .ok (.getfield idx, 3)) (kk : mt_V K cc own nL d σ (pc + 3) lv (.int (σ c 0) :: st) P) : mt_V K cc own nL d σ pc lv (.ref (mt_adr (kG K) c) :: st) P :=
  mv_getf (ci := 3) (k := 0) rfl in_X3 (mt_lt hk (by decide)) (mt_E3 hk) (by decide) hw rfl hd kk
theorem mp_X3_0 {β : Type} {c : Nat} {idx : Nat} {v : Int32} {kf : mt_St → Option β} {o : Option β} (hk : mt_kd c = 3) (hw : mt_fl own idx TX3 0) (hd : decode cc pc = .ok (.putfield idx, 3)) (kk : ∀ σ1, mt_V K cc own nL d σ1 (pc + 3) lv st (kf σ1 = o)) : mt_V K cc own nL d σ pc lv (.int v :: .ref (mt_adr (kG K) c) :: st) (mt_bnd (mt_up σ c 0 v) kf = o) :=
  mv_putf (ci := 3) (k := 0) (ty := .int) rfl in_X3 tyX3_ok nmX3 (mt_lt hk (by decide)) (mt_E3 hk) ((mt_E3 hk).trans rfl) (by decide) hw rfl (tyX3_ok 0 (by decide)) rfl rfl (Nat.le_of_ble_eq_true rfl) hd kk
theorem mg_X3_1 {c : Nat} {idx : Nat} (hk : mt_kd c = 3) (hw : mt_fl own idx TX3 1) (hd : decode cc pc = .ok (.getfield idx, 3)) (kk : mt_V K cc own nL d σ (pc + 3) lv (.int (σ c 1) :: st) P) : mt_V K cc own nL d σ pc lv (.ref (mt_adr (kG K) c) :: st) P :=
  mv_getf (ci := 3) (k := 1) rfl in_X3 (mt_lt hk (by decide)) (mt_E3 hk) (by decide) hw rfl hd kk
theorem mp_X3_1 {β : Type} {c : Nat} {idx : Nat} {v : Int32} {kf : mt_St → Option β} {o : Option β} (hk : mt_kd c = 3) (hw : mt_fl own idx TX3 1) (hd : decode cc pc = .ok (.putfield idx, 3)) (kk : ∀ σ1, mt_V K cc own nL d σ1 (pc + 3) lv st (kf σ1 = o)) : mt_V K cc own nL d σ pc lv (.int v :: .ref (mt_adr (kG K) c) :: st) (mt_bnd (mt_up σ c 1 v) kf = o) :=
  mv_putf (ci := 3) (k := 1) (ty := .int) rfl in_X3 tyX3_ok nmX3 (mt_lt hk (by decide)) (mt_E3 hk) ((mt_E3 hk).trans rfl) (by decide) hw rfl (tyX3_ok 1 (by decide)) rfl rfl (Nat.le_of_ble_eq_true rfl) hd kk
theorem mg_X3_2 {c : Nat} {idx : Nat} (hk : mt_kd c = 3) (hw : mt_fl own idx TX3 2) (hd : decode cc pc = .ok (.getfield idx, 3)) (kk : mt_V K cc own nL d σ (pc + 3) lv (.int (σ c 2) :: st) P) : mt_V K cc own nL d σ pc lv (.ref (mt_adr (kG K) c) :: st) P :=
  mv_getf (ci := 3) (k := 2) rfl in_X3 (mt_lt hk (by decide)) (mt_E3 hk) (by decide) hw rfl hd kk
theorem mp_X3_2 {β : Type} {c : Nat} {idx : Nat} {v : Int32} {kf : mt_St → Option β} {o : Option β} (hk : mt_kd c = 3) (hw : mt_fl own idx TX3 2) (hd : decode cc pc = .ok (.putfield idx, 3)) (kk : ∀ σ1, mt_V K cc own nL d σ1 (pc + 3) lv st (kf σ1 = o)) : mt_V K cc own nL d σ pc lv (.int v :: .ref (mt_adr (kG K) c) :: st) (mt_bnd (mt_up σ c 2 v) kf = o) :=
  mv_putf (ci := 3) (k := 2) (ty := .int) rfl in_X3 tyX3_ok nmX3 (mt_lt hk (by decide)) (mt_E3 hk) ((mt_E3 hk).trans rfl) (by decide) hw rfl (tyX3_ok 2 (by decide)) rfl rfl (Nat.le_of_ble_eq_true rfl) hd kk
theorem mg_X3_3 {c : Nat} {idx : Nat} (hk : mt_kd c = 3) (hw : mt_fl own idx TX3 3) (hd : decode cc pc = .ok (.getfield idx, 3)) (kk : mt_V K cc own nL d σ (pc + 3) lv (.int (σ c 3) :: st) P) : mt_V K cc own nL d σ pc lv (.ref (mt_adr (kG K) c) :: st) P :=
  mv_getf (ci := 3) (k := 3) rfl in_X3 (mt_lt hk (by decide)) (mt_E3 hk) (by decide) hw rfl hd kk
theorem mp_X3_3 {β : Type} {c : Nat} {idx : Nat} {v : Int32} {kf : mt_St → Option β} {o : Option β} (hk : mt_kd c = 3) (hw : mt_fl own idx TX3 3) (hd : decode cc pc = .ok (.putfield idx, 3)) (kk : ∀ σ1, mt_V K cc own nL d σ1 (pc + 3) lv st (kf σ1 = o)) : mt_V K cc own nL d σ pc lv (.int v :: .ref (mt_adr (kG K) c) :: st) (mt_bnd (mt_up σ c 3 v) kf = o) :=
  mv_putf (ci := 3) (k := 3) (ty := .int) rfl in_X3 tyX3_ok nmX3 (mt_lt hk (by decide)) (mt_E3 hk) ((mt_E3 hk).trans rfl) (by decide) hw rfl (tyX3_ok 3 (by decide)) rfl rfl (Nat.le_of_ble_eq_true rfl) hd kk
theorem mg_X3_4 {c : Nat} {idx : Nat} (hk : mt_kd c = 3) (hw : mt_fl own idx TX3 4) (hd : decode cc pc = .ok (.getfield idx, 3)) (kk : mt_V K cc own nL d σ (pc + 3) lv (.int (σ c 4) :: st) P) : mt_V K cc own nL d σ pc lv (.ref (mt_adr (kG K) c) :: st) P :=
  mv_getf (ci := 3) (k := 4) rfl in_X3 (mt_lt hk (by decide)) (mt_E3 hk) (by decide) hw rfl hd kk
theorem mp_X3_4 {β : Type} {c : Nat} {idx : Nat} {v : Int32} {kf : mt_St → Option β} {o : Option β} (hk : mt_kd c = 3) (hw : mt_fl own idx TX3 4) (hd : decode cc pc = .ok (.putfield idx, 3)) (kk : ∀ σ1, mt_V K cc own nL d σ1 (pc + 3) lv st (kf σ1 = o)) : mt_V K cc own nL d σ pc lv (.int v :: .ref (mt_adr (kG K) c) :: st) (mt_bnd (mt_up σ c 4 v) kf = o) :=
  mv_putf (ci := 3) (k := 4) (ty := .int) rfl in_X3 tyX3_ok nmX3 (mt_lt hk (by decide)) (mt_E3 hk) ((mt_E3 hk).trans rfl) (by decide) hw rfl (tyX3_ok 4 (by decide)) rfl rfl (Nat.le_of_ble_eq_true rfl) hd kk
theorem mg_X3_5 {c : Nat} {idx : Nat} (hk : mt_kd c = 3) (hw : mt_fl own idx TX3 5) (hd : decode cc pc = .ok (.getfield idx, 3)) (kk : mt_V K cc own nL d σ (pc + 3) lv (.int (σ c 5) :: st) P) : mt_V K cc own nL d σ pc lv (.ref (mt_adr (kG K) c) :: st) P :=
  mv_getf (ci := 3) (k := 5) rfl in_X3 (mt_lt hk (by decide)) (mt_E3 hk) (by decide) hw rfl hd kk
theorem mp_X3_5 {β : Type} {c : Nat} {idx : Nat} {v : Int32} {kf : mt_St → Option β} {o : Option β} (hk : mt_kd c = 3) (hw : mt_fl own idx TX3 5) (hd : decode cc pc = .ok (.putfield idx, 3)) (kk : ∀ σ1, mt_V K cc own nL d σ1 (pc + 3) lv st (kf σ1 = o)) : mt_V K cc own nL d σ pc lv (.int v :: .ref (mt_adr (kG K) c) :: st) (mt_bnd (mt_up σ c 5 v) kf = o) :=
  mv_putf (ci := 3) (k := 5) (ty := .int) rfl in_X3 tyX3_ok nmX3 (mt_lt hk (by decide)) (mt_E3 hk) ((mt_E3 hk).trans rfl) (by decide) hw rfl (tyX3_ok 5 (by decide)) rfl rfl (Nat.le_of_ble_eq_true rfl) hd kk
theorem mg_X3_6 {c : Nat} {idx : Nat} (hk : mt_kd c = 3) (hw : mt_fl own idx TX3 6) (hd : decode cc pc = .ok (.getfield idx, 3)) (kk : mt_V K cc own nL d σ (pc + 3) lv (.int (σ c 6) :: st) P) : mt_V K cc own nL d σ pc lv (.ref (mt_adr (kG K) c) :: st) P :=
  mv_getf (ci := 3) (k := 6) rfl in_X3 (mt_lt hk (by decide)) (mt_E3 hk) (by decide) hw rfl hd kk
theorem mp_X3_6 {β : Type} {c : Nat} {idx : Nat} {v : Int32} {kf : mt_St → Option β} {o : Option β} (hk : mt_kd c = 3) (hw : mt_fl own idx TX3 6) (hd : decode cc pc = .ok (.putfield idx, 3)) (kk : ∀ σ1, mt_V K cc own nL d σ1 (pc + 3) lv st (kf σ1 = o)) : mt_V K cc own nL d σ pc lv (.int v :: .ref (mt_adr (kG K) c) :: st) (mt_bnd (mt_up σ c 6 v) kf = o) :=
  mv_putf (ci := 3) (k := 6) (ty := .int) rfl in_X3 tyX3_ok nmX3 (mt_lt hk (by decide)) (mt_E3 hk) ((mt_E3 hk).trans rfl) (by decide) hw rfl (tyX3_ok 6 (by decide)) rfl rfl (Nat.le_of_ble_eq_true rfl) hd kk
theorem mg_X3_7 {c : Nat} {idx : Nat} (hk : mt_kd c = 3) (hw : mt_fl own idx TX3 7) (hd : decode cc pc = .ok (.getfield idx, 3)) (kk : mt_V K cc own nL d σ (pc + 3) lv (.int (σ c 7) :: st) P) : mt_V K cc own nL d σ pc lv (.ref (mt_adr (kG K) c) :: st) P :=
  mv_getf (ci := 3) (k := 7) rfl in_X3 (mt_lt hk (by decide)) (mt_E3 hk) (by decide) hw rfl hd kk
theorem mp_X3_7 {β : Type} {c : Nat} {idx : Nat} {v : Int32} {kf : mt_St → Option β} {o : Option β} (hk : mt_kd c = 3) (hw : mt_fl own idx TX3 7) (hd : decode cc pc = .ok (.putfield idx, 3)) (kk : ∀ σ1, mt_V K cc own nL d σ1 (pc + 3) lv st (kf σ1 = o)) : mt_V K cc own nL d σ pc lv (.int v :: .ref (mt_adr (kG K) c) :: st) (mt_bnd (mt_up σ c 7 v) kf = o) :=
  mv_putf (ci := 3) (k := 7) (ty := .int) rfl in_X3 tyX3_ok nmX3 (mt_lt hk (by decide)) (mt_E3 hk) ((mt_E3 hk).trans rfl) (by decide) hw rfl (tyX3_ok 7 (by decide)) rfl rfl (Nat.le_of_ble_eq_true rfl) hd kk
theorem mg_X4_0 {c : Nat} {idx : Nat} (hk : mt_kd c = 4) (hw : mt_fl own idx TX4 0) (hd : decode cc pc = .ok (.getfield idx, 3)) (kk : mt_V K cc own nL d σ (pc + 3) lv (.int (σ c 0) :: st) P) : mt_V K cc own nL d σ pc lv (.ref (mt_adr (kG K) c) :: st) P :=
  mv_getf (ci := 4) (k := 0) rfl in_X4 (mt_lt hk (by decide)) (mt_E4 hk) (by decide) hw rfl hd kk
theorem mp_X4_0 {β : Type} {c : Nat} {idx : Nat} {v : Int32} {kf : mt_St → Option β} {o : Option β} (hk : mt_kd c = 4) (hw : mt_fl own idx TX4 0) (hd : decode cc pc = .ok (.putfield idx, 3)) (kk : ∀ σ1, mt_V K cc own nL d σ1 (pc + 3) lv st (kf σ1 = o)) : mt_V K cc own nL d σ pc lv (.int v :: .ref (mt_adr (kG K) c) :: st) (mt_bnd (mt_up σ c 0 v) kf = o) :=
  mv_putf (ci := 4) (k := 0) (ty := .int) rfl in_X4 tyX4_ok nmX4 (mt_lt hk (by decide)) (mt_E4 hk) ((mt_E4 hk).trans rfl) (by decide) hw rfl (tyX4_ok 0 (by decide)) rfl rfl (Nat.le_of_ble_eq_true rfl) hd kk
theorem mg_X4_1 {c : Nat} {idx : Nat} (hk : mt_kd c = 4) (hw : mt_fl own idx TX4 1) (hd : decode cc pc = .ok (.getfield idx, 3)) (kk : mt_V K cc own nL d σ (pc + 3) lv (.int (σ c 1) :: st) P) : mt_V K cc own nL d σ pc lv (.ref (mt_adr (kG K) c) :: st) P :=
  mv_getf (ci := 4) (k := 1) rfl in_X4 (mt_lt hk (by decide)) (mt_E4 hk) (by decide) hw rfl hd kk
theorem mp_X4_1 {β : Type} {c : Nat} {idx : Nat} {v : Int32} {kf : mt_St → Option β} {o : Option β} (hk : mt_kd c = 4) (hw : mt_fl own idx TX4 1) (hd : decode cc pc = .ok (.putfield idx, 3)) (kk : ∀ σ1, mt_V K cc own nL d σ1 (pc + 3) lv st (kf σ1 = o)) : mt_V K cc own nL d σ pc lv (.int v :: .ref (mt_adr (kG K) c) :: st) (mt_bnd (mt_up σ c 1 v) kf = o) :=
  mv_putf (ci := 4) (k := 1) (ty := .int) rfl in_X4 tyX4_ok nmX4 (mt_lt hk (by decide)) (mt_E4 hk) ((mt_E4 hk).trans rfl) (by decide) hw rfl (tyX4_ok 1 (by decide)) rfl rfl (Nat.le_of_ble_eq_true rfl) hd kk
theorem mg_X4_2 {c : Nat} {idx : Nat} (hk : mt_kd c = 4) (hw : mt_fl own idx TX4 2) (hd : decode cc pc = .ok (.getfield idx, 3)) (kk : mt_V K cc own nL d σ (pc + 3) lv (.ref (mt_adr (kG K) (c + 1)) :: st) P) : mt_V K cc own nL d σ pc lv (.ref (mt_adr (kG K) c) :: st) P :=
  mv_getf (ci := 4) (k := 2) rfl in_X4 (mt_lt hk (by decide)) (mt_E4 hk) (by decide) hw rfl hd kk
theorem mg_X4_3 {c : Nat} {idx : Nat} (hk : mt_kd c = 4) (hw : mt_fl own idx TX4 3) (hd : decode cc pc = .ok (.getfield idx, 3)) (kk : mt_V K cc own nL d σ (pc + 3) lv (.int (σ c 3) :: st) P) : mt_V K cc own nL d σ pc lv (.ref (mt_adr (kG K) c) :: st) P :=
  mv_getf (ci := 4) (k := 3) rfl in_X4 (mt_lt hk (by decide)) (mt_E4 hk) (by decide) hw rfl hd kk
theorem mp_X4_3 {β : Type} {c : Nat} {idx : Nat} {v : Int32} {kf : mt_St → Option β} {o : Option β} (hk : mt_kd c = 4) (hw : mt_fl own idx TX4 3) (hd : decode cc pc = .ok (.putfield idx, 3)) (kk : ∀ σ1, mt_V K cc own nL d σ1 (pc + 3) lv st (kf σ1 = o)) : mt_V K cc own nL d σ pc lv (.int v :: .ref (mt_adr (kG K) c) :: st) (mt_bnd (mt_up σ c 3 v) kf = o) :=
  mv_putf (ci := 4) (k := 3) (ty := .int) rfl in_X4 tyX4_ok nmX4 (mt_lt hk (by decide)) (mt_E4 hk) ((mt_E4 hk).trans rfl) (by decide) hw rfl (tyX4_ok 3 (by decide)) rfl rfl (Nat.le_of_ble_eq_true rfl) hd kk
theorem mg_X4_4 {c : Nat} {idx : Nat} (hk : mt_kd c = 4) (hw : mt_fl own idx TX4 4) (hd : decode cc pc = .ok (.getfield idx, 3)) (kk : mt_V K cc own nL d σ (pc + 3) lv (.int (σ c 4) :: st) P) : mt_V K cc own nL d σ pc lv (.ref (mt_adr (kG K) c) :: st) P :=
  mv_getf (ci := 4) (k := 4) rfl in_X4 (mt_lt hk (by decide)) (mt_E4 hk) (by decide) hw rfl hd kk
theorem mp_X4_4 {β : Type} {c : Nat} {idx : Nat} {v : Int32} {kf : mt_St → Option β} {o : Option β} (hk : mt_kd c = 4) (hw : mt_fl own idx TX4 4) (hd : decode cc pc = .ok (.putfield idx, 3)) (kk : ∀ σ1, mt_V K cc own nL d σ1 (pc + 3) lv st (kf σ1 = o)) : mt_V K cc own nL d σ pc lv (.int v :: .ref (mt_adr (kG K) c) :: st) (mt_bnd (mt_up σ c 4 v) kf = o) :=
  mv_putf (ci := 4) (k := 4) (ty := .int) rfl in_X4 tyX4_ok nmX4 (mt_lt hk (by decide)) (mt_E4 hk) ((mt_E4 hk).trans rfl) (by decide) hw rfl (tyX4_ok 4 (by decide)) rfl rfl (Nat.le_of_ble_eq_true rfl) hd kk
theorem mg_X4_5 {c : Nat} {idx : Nat} (hk : mt_kd c = 4) (hw : mt_fl own idx TX4 5) (hd : decode cc pc = .ok (.getfield idx, 3)) (kk : mt_V K cc own nL d σ (pc + 3) lv (.int (σ c 5) :: st) P) : mt_V K cc own nL d σ pc lv (.ref (mt_adr (kG K) c) :: st) P :=
  mv_getf (ci := 4) (k := 5) rfl in_X4 (mt_lt hk (by decide)) (mt_E4 hk) (by decide) hw rfl hd kk
theorem mp_X4_5 {β : Type} {c : Nat} {idx : Nat} {v : Int32} {kf : mt_St → Option β} {o : Option β} (hk : mt_kd c = 4) (hw : mt_fl own idx TX4 5) (hd : decode cc pc = .ok (.putfield idx, 3)) (kk : ∀ σ1, mt_V K cc own nL d σ1 (pc + 3) lv st (kf σ1 = o)) : mt_V K cc own nL d σ pc lv (.int v :: .ref (mt_adr (kG K) c) :: st) (mt_bnd (mt_up σ c 5 v) kf = o) :=
  mv_putf (ci := 4) (k := 5) (ty := .int) rfl in_X4 tyX4_ok nmX4 (mt_lt hk (by decide)) (mt_E4 hk) ((mt_E4 hk).trans rfl) (by decide) hw rfl (tyX4_ok 5 (by decide)) rfl rfl (Nat.le_of_ble_eq_true rfl) hd kk
theorem mg_X4_6 {c : Nat} {idx : Nat} (hk : mt_kd c = 4) (hw : mt_fl own idx TX4 6) (hd : decode cc pc = .ok (.getfield idx, 3)) (kk : mt_V K cc own nL d σ (pc + 3) lv (.ref (mt_adr (kG K) (c + 2)) :: st) P) : mt_V K cc own nL d σ pc lv (.ref (mt_adr (kG K) c) :: st) P :=
  mv_getf (ci := 4) (k := 6) rfl in_X4 (mt_lt hk (by decide)) (mt_E4 hk) (by decide) hw rfl hd kk
theorem mg_X4_7 {c : Nat} {idx : Nat} (hk : mt_kd c = 4) (hw : mt_fl own idx TX4 7) (hd : decode cc pc = .ok (.getfield idx, 3)) (kk : mt_V K cc own nL d σ (pc + 3) lv (.int (σ c 7) :: st) P) : mt_V K cc own nL d σ pc lv (.ref (mt_adr (kG K) c) :: st) P :=
  mv_getf (ci := 4) (k := 7) rfl in_X4 (mt_lt hk (by decide)) (mt_E4 hk) (by decide) hw rfl hd kk
theorem mp_X4_7 {β : Type} {c : Nat} {idx : Nat} {v : Int32} {kf : mt_St → Option β} {o : Option β} (hk : mt_kd c = 4) (hw : mt_fl own idx TX4 7) (hd : decode cc pc = .ok (.putfield idx, 3)) (kk : ∀ σ1, mt_V K cc own nL d σ1 (pc + 3) lv st (kf σ1 = o)) : mt_V K cc own nL d σ pc lv (.int v :: .ref (mt_adr (kG K) c) :: st) (mt_bnd (mt_up σ c 7 v) kf = o) :=
  mv_putf (ci := 4) (k := 7) (ty := .int) rfl in_X4 tyX4_ok nmX4 (mt_lt hk (by decide)) (mt_E4 hk) ((mt_E4 hk).trans rfl) (by decide) hw rfl (tyX4_ok 7 (by decide)) rfl rfl (Nat.le_of_ble_eq_true rfl) hd kk
theorem mg_X4_8 {c : Nat} {idx : Nat} (hk : mt_kd c = 4) (hw : mt_fl own idx TX4 8) (hd : decode cc pc = .ok (.getfield idx, 3)) (kk : mt_V K cc own nL d σ (pc + 3) lv (.ref (mt_adr (kG K) (c + 3)) :: st) P) : mt_V K cc own nL d σ pc lv (.ref (mt_adr (kG K) c) :: st) P :=
  mv_getf (ci := 4) (k := 8) rfl in_X4 (mt_lt hk (by decide)) (mt_E4 hk) (by decide) hw rfl hd kk
theorem mg_X5_0 {idx : Nat} (hw : mt_fl own idx TX5 0) (hd : decode cc pc = .ok (.getfield idx, 3)) (kk : mt_V K cc own nL d σ (pc + 3) lv (.ref (mt_adr (kG K) 1) :: st) P) : mt_V K cc own nL d σ pc lv (.ref (mt_adr (kG K) 0) :: st) P :=
  mv_getf (ci := 5) (k := 0) rfl in_X5 (mt_lt (show mt_kd 0 = 5 from rfl) (by decide)) (mt_E5 (show mt_kd 0 = 5 from rfl)) (by decide) hw rfl hd kk
theorem mg_X5_1 {idx : Nat} (hw : mt_fl own idx TX5 1) (hd : decode cc pc = .ok (.getfield idx, 3)) (kk : mt_V K cc own nL d σ (pc + 3) lv (.ref (mt_adr (kG K) 13) :: st) P) : mt_V K cc own nL d σ pc lv (.ref (mt_adr (kG K) 0) :: st) P :=
  mv_getf (ci := 5) (k := 1) rfl in_X5 (mt_lt (show mt_kd 0 = 5 from rfl) (by decide)) (mt_E5 (show mt_kd 0 = 5 from rfl)) (by decide) hw rfl hd kk
theorem mg_X5_2 {idx : Nat} (hw : mt_fl own idx TX5 2) (hd : decode cc pc = .ok (.getfield idx, 3)) (kk : mt_V K cc own nL d σ (pc + 3) lv (.int (σ 0 2) :: st) P) : mt_V K cc own nL d σ pc lv (.ref (mt_adr (kG K) 0) :: st) P :=
  mv_getf (ci := 5) (k := 2) rfl in_X5 (mt_lt (show mt_kd 0 = 5 from rfl) (by decide)) (mt_E5 (show mt_kd 0 = 5 from rfl)) (by decide) hw rfl hd kk
theorem mz_X5_2 {β : Type} {idx : Nat} {v : Int32} {kf : mt_St → Option β} {o : Option β} (hb : mt_b01 v = true) (hw : mt_fl own idx TX5 2) (hd : decode cc pc = .ok (.putfield idx, 3)) (kk : ∀ σ1, mt_V K cc own nL d σ1 (pc + 3) lv st (kf σ1 = o)) : mt_V K cc own nL d σ pc lv (.int v :: .ref (mt_adr (kG K) 0) :: st) (mt_bnd (mt_up σ 0 2 v) kf = o) :=
  mv_putf (ci := 5) (k := 2) (ty := .boolean) rfl in_X5 tyX5_ok nmX5 (mt_lt (show mt_kd 0 = 5 from rfl) (by decide)) (mt_E5 (show mt_kd 0 = 5 from rfl)) ((mt_E5 (show mt_kd 0 = 5 from rfl)).trans rfl) (by decide) hw rfl (tyX5_ok 2 (by decide)) (mt_n01 hb).1 (mt_n01 hb).2 (Nat.le_of_ble_eq_true rfl) hd kk
theorem mzc_X5_2 {β : Type} {idx : Nat} {v : Int32} {kf : mt_St → Option β} {o : β} (hw : mt_fl own idx TX5 2) (hd : decode cc pc = .ok (.putfield idx, 3)) (kk : ∀ σ1, mt_V K cc own nL d σ1 (pc + 3) lv st (kf σ1 = some o)) : mt_V K cc own nL d σ pc lv (.int v :: .ref (mt_adr (kG K) 0) :: st) (mt_chk (mt_b01 v) (mt_bnd (mt_up σ 0 2 v) kf) = some o) :=
  fun hP => mz_X5_2 (mt_somE hP).1 hw hd kk (mt_somE hP).2
theorem mg_X5_3 {idx : Nat} (hw : mt_fl own idx TX5 3) (hd : decode cc pc = .ok (.getfield idx, 3)) (kk : mt_V K cc own nL d σ (pc + 3) lv (.ref (mt_adr (kG K) 25) :: st) P) : mt_V K cc own nL d σ pc lv (.ref (mt_adr (kG K) 0) :: st) P :=
  mv_getf (ci := 5) (k := 3) rfl in_X5 (mt_lt (show mt_kd 0 = 5 from rfl) (by decide)) (mt_E5 (show mt_kd 0 = 5 from rfl)) (by decide) hw rfl hd kk
theorem mg_X5_4 {idx : Nat} (hw : mt_fl own idx TX5 4) (hd : decode cc pc = .ok (.getfield idx, 3)) (kk : mt_V K cc own nL d σ (pc + 3) lv (.ref (mt_adr (kG K) 37) :: st) P) : mt_V K cc own nL d σ pc lv (.ref (mt_adr (kG K) 0) :: st) P :=
  mv_getf (ci := 5) (k := 4) rfl in_X5 (mt_lt (show mt_kd 0 = 5 from rfl) (by decide)) (mt_E5 (show mt_kd 0 = 5 from rfl)) (by decide) hw rfl hd kk
theorem mg_X5_5 {idx : Nat} (hw : mt_fl own idx TX5 5) (hd : decode cc pc = .ok (.getfield idx, 3)) (kk : mt_V K cc own nL d σ (pc + 3) lv (.ref (mt_adr (kG K) 38) :: st) P) : mt_V K cc own nL d σ pc lv (.ref (mt_adr (kG K) 0) :: st) P :=
  mv_getf (ci := 5) (k := 5) rfl in_X5 (mt_lt (show mt_kd 0 = 5 from rfl) (by decide)) (mt_E5 (show mt_kd 0 = 5 from rfl)) (by decide) hw rfl hd kk
theorem mg_X5_6 {idx : Nat} (hw : mt_fl own idx TX5 6) (hd : decode cc pc = .ok (.getfield idx, 3)) (kk : mt_V K cc own nL d σ (pc + 3) lv (.ref (mt_adr (kG K) 39) :: st) P) : mt_V K cc own nL d σ pc lv (.ref (mt_adr (kG K) 0) :: st) P :=
  mv_getf (ci := 5) (k := 6) rfl in_X5 (mt_lt (show mt_kd 0 = 5 from rfl) (by decide)) (mt_E5 (show mt_kd 0 = 5 from rfl)) (by decide) hw rfl hd kk
theorem mg_X5_7 {idx : Nat} (hw : mt_fl own idx TX5 7) (hd : decode cc pc = .ok (.getfield idx, 3)) (kk : mt_V K cc own nL d σ (pc + 3) lv (.ref (mt_adr (kG K) 42) :: st) P) : mt_V K cc own nL d σ pc lv (.ref (mt_adr (kG K) 0) :: st) P :=
  mv_getf (ci := 5) (k := 7) rfl in_X5 (mt_lt (show mt_kd 0 = 5 from rfl) (by decide)) (mt_E5 (show mt_kd 0 = 5 from rfl)) (by decide) hw rfl hd kk
theorem mg_X5_8 {idx : Nat} (hw : mt_fl own idx TX5 8) (hd : decode cc pc = .ok (.getfield idx, 3)) (kk : mt_V K cc own nL d σ (pc + 3) lv (.ref (mt_adr (kG K) 43) :: st) P) : mt_V K cc own nL d σ pc lv (.ref (mt_adr (kG K) 0) :: st) P :=
  mv_getf (ci := 5) (k := 8) rfl in_X5 (mt_lt (show mt_kd 0 = 5 from rfl) (by decide)) (mt_E5 (show mt_kd 0 = 5 from rfl)) (by decide) hw rfl hd kk
theorem mg_X5_9 {idx : Nat} (hw : mt_fl own idx TX5 9) (hd : decode cc pc = .ok (.getfield idx, 3)) (kk : mt_V K cc own nL d σ (pc + 3) lv (.ref (mt_adr (kG K) 44) :: st) P) : mt_V K cc own nL d σ pc lv (.ref (mt_adr (kG K) 0) :: st) P :=
  mv_getf (ci := 5) (k := 9) rfl in_X5 (mt_lt (show mt_kd 0 = 5 from rfl) (by decide)) (mt_E5 (show mt_kd 0 = 5 from rfl)) (by decide) hw rfl hd kk
theorem mg_X5_10 {idx : Nat} (hw : mt_fl own idx TX5 10) (hd : decode cc pc = .ok (.getfield idx, 3)) (kk : mt_V K cc own nL d σ (pc + 3) lv (.ref (mt_adr (kG K) 46) :: st) P) : mt_V K cc own nL d σ pc lv (.ref (mt_adr (kG K) 0) :: st) P :=
  mv_getf (ci := 5) (k := 10) rfl in_X5 (mt_lt (show mt_kd 0 = 5 from rfl) (by decide)) (mt_E5 (show mt_kd 0 = 5 from rfl)) (by decide) hw rfl hd kk
theorem mg_X5_11 {idx : Nat} (hw : mt_fl own idx TX5 11) (hd : decode cc pc = .ok (.getfield idx, 3)) (kk : mt_V K cc own nL d σ (pc + 3) lv (.ref (mt_adr (kG K) 55) :: st) P) : mt_V K cc own nL d σ pc lv (.ref (mt_adr (kG K) 0) :: st) P :=
  mv_getf (ci := 5) (k := 11) rfl in_X5 (mt_lt (show mt_kd 0 = 5 from rfl) (by decide)) (mt_E5 (show mt_kd 0 = 5 from rfl)) (by decide) hw rfl hd kk
theorem mg_X6_0 {idx : Nat} (hw : mt_fl own idx TX6 0) (hd : decode cc pc = .ok (.getfield idx, 3)) (kk : mt_V K cc own nL d σ (pc + 3) lv (.ref (mt_adr (kG K) 57) :: st) P) : mt_V K cc own nL d σ pc lv (.ref (mt_adr (kG K) 56) :: st) P :=
  mv_getf (ci := 6) (k := 0) rfl in_X6 (mt_lt (show mt_kd 56 = 6 from rfl) (by decide)) (mt_E6 (show mt_kd 56 = 6 from rfl)) (by decide) hw rfl hd kk
theorem mg_X6_1 {idx : Nat} (hw : mt_fl own idx TX6 1) (hd : decode cc pc = .ok (.getfield idx, 3)) (kk : mt_V K cc own nL d σ (pc + 3) lv (.ref (mt_adr (kG K) 58) :: st) P) : mt_V K cc own nL d σ pc lv (.ref (mt_adr (kG K) 56) :: st) P :=
  mv_getf (ci := 6) (k := 1) rfl in_X6 (mt_lt (show mt_kd 56 = 6 from rfl) (by decide)) (mt_E6 (show mt_kd 56 = 6 from rfl)) (by decide) hw rfl hd kk
theorem mg_X6_2 {idx : Nat} (hw : mt_fl own idx TX6 2) (hd : decode cc pc = .ok (.getfield idx, 3)) (kk : mt_V K cc own nL d σ (pc + 3) lv (.ref (mt_adr (kG K) 59) :: st) P) : mt_V K cc own nL d σ pc lv (.ref (mt_adr (kG K) 56) :: st) P :=
  mv_getf (ci := 6) (k := 2) rfl in_X6 (mt_lt (show mt_kd 56 = 6 from rfl) (by decide)) (mt_E6 (show mt_kd 56 = 6 from rfl)) (by decide) hw rfl hd kk
theorem mg_X6_3 {idx : Nat} (hw : mt_fl own idx TX6 3) (hd : decode cc pc = .ok (.getfield idx, 3)) (kk : mt_V K cc own nL d σ (pc + 3) lv (.int (σ 56 3) :: st) P) : mt_V K cc own nL d σ pc lv (.ref (mt_adr (kG K) 56) :: st) P :=
  mv_getf (ci := 6) (k := 3) rfl in_X6 (mt_lt (show mt_kd 56 = 6 from rfl) (by decide)) (mt_E6 (show mt_kd 56 = 6 from rfl)) (by decide) hw rfl hd kk
theorem mz_X6_3 {β : Type} {idx : Nat} {v : Int32} {kf : mt_St → Option β} {o : Option β} (hb : mt_b01 v = true) (hw : mt_fl own idx TX6 3) (hd : decode cc pc = .ok (.putfield idx, 3)) (kk : ∀ σ1, mt_V K cc own nL d σ1 (pc + 3) lv st (kf σ1 = o)) : mt_V K cc own nL d σ pc lv (.int v :: .ref (mt_adr (kG K) 56) :: st) (mt_bnd (mt_up σ 56 3 v) kf = o) :=
  mv_putf (ci := 6) (k := 3) (ty := .boolean) rfl in_X6 tyX6_ok nmX6 (mt_lt (show mt_kd 56 = 6 from rfl) (by decide)) (mt_E6 (show mt_kd 56 = 6 from rfl)) ((mt_E6 (show mt_kd 56 = 6 from rfl)).trans rfl) (by decide) hw rfl (tyX6_ok 3 (by decide)) (mt_n01 hb).1 (mt_n01 hb).2 (Nat.le_of_ble_eq_true rfl) hd kk
theorem mzc_X6_3 {β : Type} {idx : Nat} {v : Int32} {kf : mt_St → Option β} {o : β} (hw : mt_fl own idx TX6 3) (hd : decode cc pc = .ok (.putfield idx, 3)) (kk : ∀ σ1, mt_V K cc own nL d σ1 (pc + 3) lv st (kf σ1 = some o)) : mt_V K cc own nL d σ pc lv (.int v :: .ref (mt_adr (kG K) 56) :: st) (mt_chk (mt_b01 v) (mt_bnd (mt_up σ 56 3 v) kf) = some o) :=
  fun hP => mz_X6_3 (mt_somE hP).1 hw hd kk (mt_somE hP).2
theorem mg_X6_4 {idx : Nat} (hw : mt_fl own idx TX6 4) (hd : decode cc pc = .ok (.getfield idx, 3)) (kk : mt_V K cc own nL d σ (pc + 3) lv (.ref (mt_adr (kG K) 60) :: st) P) : mt_V K cc own nL d σ pc lv (.ref (mt_adr (kG K) 56) :: st) P :=
  mv_getf (ci := 6) (k := 4) rfl in_X6 (mt_lt (show mt_kd 56 = 6 from rfl) (by decide)) (mt_E6 (show mt_kd 56 = 6 from rfl)) (by decide) hw rfl hd kk
theorem mg_X6_5 {idx : Nat} (hw : mt_fl own idx TX6 5) (hd : decode cc pc = .ok (.getfield idx, 3)) (kk : mt_V K cc own nL d σ (pc + 3) lv (.int (σ 56 5) :: st) P) : mt_V K cc own nL d σ pc lv (.ref (mt_adr (kG K) 56) :: st) P :=
  mv_getf (ci := 6) (k := 5) rfl in_X6 (mt_lt (show mt_kd 56 = 6 from rfl) (by decide)) (mt_E6 (show mt_kd 56 = 6 from rfl)) (by decide) hw rfl hd kk
theorem mp_X6_5 {β : Type} {idx : Nat} {v : Int32} {kf : mt_St → Option β} {o : Option β} (hw : mt_fl own idx TX6 5) (hd : decode cc pc = .ok (.putfield idx, 3)) (kk : ∀ σ1, mt_V K cc own nL d σ1 (pc + 3) lv st (kf σ1 = o)) : mt_V K cc own nL d σ pc lv (.int v :: .ref (mt_adr (kG K) 56) :: st) (mt_bnd (mt_up σ 56 5 v) kf = o) :=
  mv_putf (ci := 6) (k := 5) (ty := .int) rfl in_X6 tyX6_ok nmX6 (mt_lt (show mt_kd 56 = 6 from rfl) (by decide)) (mt_E6 (show mt_kd 56 = 6 from rfl)) ((mt_E6 (show mt_kd 56 = 6 from rfl)).trans rfl) (by decide) hw rfl (tyX6_ok 5 (by decide)) rfl rfl (Nat.le_of_ble_eq_true rfl) hd kk
theorem mg_X6_6 {idx : Nat} (hw : mt_fl own idx TX6 6) (hd : decode cc pc = .ok (.getfield idx, 3)) (kk : mt_V K cc own nL d σ (pc + 3) lv (.ref (mt_adr (kG K) 61) :: st) P) : mt_V K cc own nL d σ pc lv (.ref (mt_adr (kG K) 56) :: st) P :=
  mv_getf (ci := 6) (k := 6) rfl in_X6 (mt_lt (show mt_kd 56 = 6 from rfl) (by decide)) (mt_E6 (show mt_kd 56 = 6 from rfl)) (by decide) hw rfl hd kk
theorem mg_X6_7 {idx : Nat} (hw : mt_fl own idx TX6 7) (hd : decode cc pc = .ok (.getfield idx, 3)) (kk : mt_V K cc own nL d σ (pc + 3) lv (.int (σ 56 7) :: st) P) : mt_V K cc own nL d σ pc lv (.ref (mt_adr (kG K) 56) :: st) P :=
  mv_getf (ci := 6) (k := 7) rfl in_X6 (mt_lt (show mt_kd 56 = 6 from rfl) (by decide)) (mt_E6 (show mt_kd 56 = 6 from rfl)) (by decide) hw rfl hd kk
theorem mp_X6_7 {β : Type} {idx : Nat} {v : Int32} {kf : mt_St → Option β} {o : Option β} (hw : mt_fl own idx TX6 7) (hd : decode cc pc = .ok (.putfield idx, 3)) (kk : ∀ σ1, mt_V K cc own nL d σ1 (pc + 3) lv st (kf σ1 = o)) : mt_V K cc own nL d σ pc lv (.int v :: .ref (mt_adr (kG K) 56) :: st) (mt_bnd (mt_up σ 56 7 v) kf = o) :=
  mv_putf (ci := 6) (k := 7) (ty := .int) rfl in_X6 tyX6_ok nmX6 (mt_lt (show mt_kd 56 = 6 from rfl) (by decide)) (mt_E6 (show mt_kd 56 = 6 from rfl)) ((mt_E6 (show mt_kd 56 = 6 from rfl)).trans rfl) (by decide) hw rfl (tyX6_ok 7 (by decide)) rfl rfl (Nat.le_of_ble_eq_true rfl) hd kk
theorem mg_X6_8 {idx : Nat} (hw : mt_fl own idx TX6 8) (hd : decode cc pc = .ok (.getfield idx, 3)) (kk : mt_V K cc own nL d σ (pc + 3) lv (.int (σ 56 8) :: st) P) : mt_V K cc own nL d σ pc lv (.ref (mt_adr (kG K) 56) :: st) P :=
  mv_getf (ci := 6) (k := 8) rfl in_X6 (mt_lt (show mt_kd 56 = 6 from rfl) (by decide)) (mt_E6 (show mt_kd 56 = 6 from rfl)) (by decide) hw rfl hd kk
theorem mp_X6_8 {β : Type} {idx : Nat} {v : Int32} {kf : mt_St → Option β} {o : Option β} (hw : mt_fl own idx TX6 8) (hd : decode cc pc = .ok (.putfield idx, 3)) (kk : ∀ σ1, mt_V K cc own nL d σ1 (pc + 3) lv st (kf σ1 = o)) : mt_V K cc own nL d σ pc lv (.int v :: .ref (mt_adr (kG K) 56) :: st) (mt_bnd (mt_up σ 56 8 v) kf = o) :=
  mv_putf (ci := 6) (k := 8) (ty := .int) rfl in_X6 tyX6_ok nmX6 (mt_lt (show mt_kd 56 = 6 from rfl) (by decide)) (mt_E6 (show mt_kd 56 = 6 from rfl)) ((mt_E6 (show mt_kd 56 = 6 from rfl)).trans rfl) (by decide) hw rfl (tyX6_ok 8 (by decide)) rfl rfl (Nat.le_of_ble_eq_true rfl) hd kk
theorem mg_X6_9 {idx : Nat} (hw : mt_fl own idx TX6 9) (hd : decode cc pc = .ok (.getfield idx, 3)) (kk : mt_V K cc own nL d σ (pc + 3) lv (.int (σ 56 9) :: st) P) : mt_V K cc own nL d σ pc lv (.ref (mt_adr (kG K) 56) :: st) P :=
  mv_getf (ci := 6) (k := 9) rfl in_X6 (mt_lt (show mt_kd 56 = 6 from rfl) (by decide)) (mt_E6 (show mt_kd 56 = 6 from rfl)) (by decide) hw rfl hd kk
theorem mp_X6_9 {β : Type} {idx : Nat} {v : Int32} {kf : mt_St → Option β} {o : Option β} (hw : mt_fl own idx TX6 9) (hd : decode cc pc = .ok (.putfield idx, 3)) (kk : ∀ σ1, mt_V K cc own nL d σ1 (pc + 3) lv st (kf σ1 = o)) : mt_V K cc own nL d σ pc lv (.int v :: .ref (mt_adr (kG K) 56) :: st) (mt_bnd (mt_up σ 56 9 v) kf = o) :=
  mv_putf (ci := 6) (k := 9) (ty := .int) rfl in_X6 tyX6_ok nmX6 (mt_lt (show mt_kd 56 = 6 from rfl) (by decide)) (mt_E6 (show mt_kd 56 = 6 from rfl)) ((mt_E6 (show mt_kd 56 = 6 from rfl)).trans rfl) (by decide) hw rfl (tyX6_ok 9 (by decide)) rfl rfl (Nat.le_of_ble_eq_true rfl) hd kk
theorem mg_X6_10 {idx : Nat} (hw : mt_fl own idx TX6 10) (hd : decode cc pc = .ok (.getfield idx, 3)) (kk : mt_V K cc own nL d σ (pc + 3) lv (.int (σ 56 10) :: st) P) : mt_V K cc own nL d σ pc lv (.ref (mt_adr (kG K) 56) :: st) P :=
  mv_getf (ci := 6) (k := 10) rfl in_X6 (mt_lt (show mt_kd 56 = 6 from rfl) (by decide)) (mt_E6 (show mt_kd 56 = 6 from rfl)) (by decide) hw rfl hd kk
theorem mp_X6_10 {β : Type} {idx : Nat} {v : Int32} {kf : mt_St → Option β} {o : Option β} (hw : mt_fl own idx TX6 10) (hd : decode cc pc = .ok (.putfield idx, 3)) (kk : ∀ σ1, mt_V K cc own nL d σ1 (pc + 3) lv st (kf σ1 = o)) : mt_V K cc own nL d σ pc lv (.int v :: .ref (mt_adr (kG K) 56) :: st) (mt_bnd (mt_up σ 56 10 v) kf = o) :=
  mv_putf (ci := 6) (k := 10) (ty := .int) rfl in_X6 tyX6_ok nmX6 (mt_lt (show mt_kd 56 = 6 from rfl) (by decide)) (mt_E6 (show mt_kd 56 = 6 from rfl)) ((mt_E6 (show mt_kd 56 = 6 from rfl)).trans rfl) (by decide) hw rfl (tyX6_ok 10 (by decide)) rfl rfl (Nat.le_of_ble_eq_true rfl) hd kk
theorem mg_X6_11 {idx : Nat} (hw : mt_fl own idx TX6 11) (hd : decode cc pc = .ok (.getfield idx, 3)) (kk : mt_V K cc own nL d σ (pc + 3) lv (.int (σ 56 11) :: st) P) : mt_V K cc own nL d σ pc lv (.ref (mt_adr (kG K) 56) :: st) P :=
  mv_getf (ci := 6) (k := 11) rfl in_X6 (mt_lt (show mt_kd 56 = 6 from rfl) (by decide)) (mt_E6 (show mt_kd 56 = 6 from rfl)) (by decide) hw rfl hd kk
theorem mp_X6_11 {β : Type} {idx : Nat} {v : Int32} {kf : mt_St → Option β} {o : Option β} (hw : mt_fl own idx TX6 11) (hd : decode cc pc = .ok (.putfield idx, 3)) (kk : ∀ σ1, mt_V K cc own nL d σ1 (pc + 3) lv st (kf σ1 = o)) : mt_V K cc own nL d σ pc lv (.int v :: .ref (mt_adr (kG K) 56) :: st) (mt_bnd (mt_up σ 56 11 v) kf = o) :=
  mv_putf (ci := 6) (k := 11) (ty := .int) rfl in_X6 tyX6_ok nmX6 (mt_lt (show mt_kd 56 = 6 from rfl) (by decide)) (mt_E6 (show mt_kd 56 = 6 from rfl)) ((mt_E6 (show mt_kd 56 = 6 from rfl)).trans rfl) (by decide) hw rfl (tyX6_ok 11 (by decide)) rfl rfl (Nat.le_of_ble_eq_true rfl) hd kk
theorem mg_X6_12 {idx : Nat} (hw : mt_fl own idx TX6 12) (hd : decode cc pc = .ok (.getfield idx, 3)) (kk : mt_V K cc own nL d σ (pc + 3) lv (.int (σ 56 12) :: st) P) : mt_V K cc own nL d σ pc lv (.ref (mt_adr (kG K) 56) :: st) P :=
  mv_getf (ci := 6) (k := 12) rfl in_X6 (mt_lt (show mt_kd 56 = 6 from rfl) (by decide)) (mt_E6 (show mt_kd 56 = 6 from rfl)) (by decide) hw rfl hd kk
theorem mz_X6_12 {β : Type} {idx : Nat} {v : Int32} {kf : mt_St → Option β} {o : Option β} (hb : mt_b01 v = true) (hw : mt_fl own idx TX6 12) (hd : decode cc pc = .ok (.putfield idx, 3)) (kk : ∀ σ1, mt_V K cc own nL d σ1 (pc + 3) lv st (kf σ1 = o)) : mt_V K cc own nL d σ pc lv (.int v :: .ref (mt_adr (kG K) 56) :: st) (mt_bnd (mt_up σ 56 12 v) kf = o) :=
  mv_putf (ci := 6) (k := 12) (ty := .boolean) rfl in_X6 tyX6_ok nmX6 (mt_lt (show mt_kd 56 = 6 from rfl) (by decide)) (mt_E6 (show mt_kd 56 = 6 from rfl)) ((mt_E6 (show mt_kd 56 = 6 from rfl)).trans rfl) (by decide) hw rfl (tyX6_ok 12 (by decide)) (mt_n01 hb).1 (mt_n01 hb).2 (Nat.le_of_ble_eq_true rfl) hd kk
theorem mzc_X6_12 {β : Type} {idx : Nat} {v : Int32} {kf : mt_St → Option β} {o : β} (hw : mt_fl own idx TX6 12) (hd : decode cc pc = .ok (.putfield idx, 3)) (kk : ∀ σ1, mt_V K cc own nL d σ1 (pc + 3) lv st (kf σ1 = some o)) : mt_V K cc own nL d σ pc lv (.int v :: .ref (mt_adr (kG K) 56) :: st) (mt_chk (mt_b01 v) (mt_bnd (mt_up σ 56 12 v) kf) = some o) :=
  fun hP => mz_X6_12 (mt_somE hP).1 hw hd kk (mt_somE hP).2
theorem mg_X6_13 {idx : Nat} (hw : mt_fl own idx TX6 13) (hd : decode cc pc = .ok (.getfield idx, 3)) (kk : mt_V K cc own nL d σ (pc + 3) lv (.ref (mt_adr (kG K) 62) :: st) P) : mt_V K cc own nL d σ pc lv (.ref (mt_adr (kG K) 56) :: st) P :=
  mv_getf (ci := 6) (k := 13) rfl in_X6 (mt_lt (show mt_kd 56 = 6 from rfl) (by decide)) (mt_E6 (show mt_kd 56 = 6 from rfl)) (by decide) hw rfl hd kk
theorem mg_X6_14 {idx : Nat} (hw : mt_fl own idx TX6 14) (hd : decode cc pc = .ok (.getfield idx, 3)) (kk : mt_V K cc own nL d σ (pc + 3) lv (.ref (mt_adr (kG K) 63) :: st) P) : mt_V K cc own nL d σ pc lv (.ref (mt_adr (kG K) 56) :: st) P :=
  mv_getf (ci := 6) (k := 14) rfl in_X6 (mt_lt (show mt_kd 56 = 6 from rfl) (by decide)) (mt_E6 (show mt_kd 56 = 6 from rfl)) (by decide) hw rfl hd kk
theorem mg_X6_15 {idx : Nat} (hw : mt_fl own idx TX6 15) (hd : decode cc pc = .ok (.getfield idx, 3)) (kk : mt_V K cc own nL d σ (pc + 3) lv (.int (σ 56 15) :: st) P) : mt_V K cc own nL d σ pc lv (.ref (mt_adr (kG K) 56) :: st) P :=
  mv_getf (ci := 6) (k := 15) rfl in_X6 (mt_lt (show mt_kd 56 = 6 from rfl) (by decide)) (mt_E6 (show mt_kd 56 = 6 from rfl)) (by decide) hw rfl hd kk
theorem mp_X6_15 {β : Type} {idx : Nat} {v : Int32} {kf : mt_St → Option β} {o : Option β} (hw : mt_fl own idx TX6 15) (hd : decode cc pc = .ok (.putfield idx, 3)) (kk : ∀ σ1, mt_V K cc own nL d σ1 (pc + 3) lv st (kf σ1 = o)) : mt_V K cc own nL d σ pc lv (.int v :: .ref (mt_adr (kG K) 56) :: st) (mt_bnd (mt_up σ 56 15 v) kf = o) :=
  mv_putf (ci := 6) (k := 15) (ty := .int) rfl in_X6 tyX6_ok nmX6 (mt_lt (show mt_kd 56 = 6 from rfl) (by decide)) (mt_E6 (show mt_kd 56 = 6 from rfl)) ((mt_E6 (show mt_kd 56 = 6 from rfl)).trans rfl) (by decide) hw rfl (tyX6_ok 15 (by decide)) rfl rfl (Nat.le_of_ble_eq_true rfl) hd kk
theorem mg_X6_16 {idx : Nat} (hw : mt_fl own idx TX6 16) (hd : decode cc pc = .ok (.getfield idx, 3)) (kk : mt_V K cc own nL d σ (pc + 3) lv (.int (σ 56 16) :: st) P) : mt_V K cc own nL d σ pc lv (.ref (mt_adr (kG K) 56) :: st) P :=
  mv_getf (ci := 6) (k := 16) rfl in_X6 (mt_lt (show mt_kd 56 = 6 from rfl) (by decide)) (mt_E6 (show mt_kd 56 = 6 from rfl)) (by decide) hw rfl hd kk
theorem mp_X6_16 {β : Type} {idx : Nat} {v : Int32} {kf : mt_St → Option β} {o : Option β} (hw : mt_fl own idx TX6 16) (hd : decode cc pc = .ok (.putfield idx, 3)) (kk : ∀ σ1, mt_V K cc own nL d σ1 (pc + 3) lv st (kf σ1 = o)) : mt_V K cc own nL d σ pc lv (.int v :: .ref (mt_adr (kG K) 56) :: st) (mt_bnd (mt_up σ 56 16 v) kf = o) :=
  mv_putf (ci := 6) (k := 16) (ty := .int) rfl in_X6 tyX6_ok nmX6 (mt_lt (show mt_kd 56 = 6 from rfl) (by decide)) (mt_E6 (show mt_kd 56 = 6 from rfl)) ((mt_E6 (show mt_kd 56 = 6 from rfl)).trans rfl) (by decide) hw rfl (tyX6_ok 16 (by decide)) rfl rfl (Nat.le_of_ble_eq_true rfl) hd kk
theorem mg_X6_17 {idx : Nat} (hw : mt_fl own idx TX6 17) (hd : decode cc pc = .ok (.getfield idx, 3)) (kk : mt_V K cc own nL d σ (pc + 3) lv (.ref (mt_adr (kG K) 64) :: st) P) : mt_V K cc own nL d σ pc lv (.ref (mt_adr (kG K) 56) :: st) P :=
  mv_getf (ci := 6) (k := 17) rfl in_X6 (mt_lt (show mt_kd 56 = 6 from rfl) (by decide)) (mt_E6 (show mt_kd 56 = 6 from rfl)) (by decide) hw rfl hd kk
theorem mg_X6_18 {idx : Nat} (hw : mt_fl own idx TX6 18) (hd : decode cc pc = .ok (.getfield idx, 3)) (kk : mt_V K cc own nL d σ (pc + 3) lv (.ref (mt_adr (kG K) 65) :: st) P) : mt_V K cc own nL d σ pc lv (.ref (mt_adr (kG K) 56) :: st) P :=
  mv_getf (ci := 6) (k := 18) rfl in_X6 (mt_lt (show mt_kd 56 = 6 from rfl) (by decide)) (mt_E6 (show mt_kd 56 = 6 from rfl)) (by decide) hw rfl hd kk
theorem mg_X6_19 {idx : Nat} (hw : mt_fl own idx TX6 19) (hd : decode cc pc = .ok (.getfield idx, 3)) (kk : mt_V K cc own nL d σ (pc + 3) lv (.ref (mt_adr (kG K) 66) :: st) P) : mt_V K cc own nL d σ pc lv (.ref (mt_adr (kG K) 56) :: st) P :=
  mv_getf (ci := 6) (k := 19) rfl in_X6 (mt_lt (show mt_kd 56 = 6 from rfl) (by decide)) (mt_E6 (show mt_kd 56 = 6 from rfl)) (by decide) hw rfl hd kk
theorem mg_X6_20 {idx : Nat} (hw : mt_fl own idx TX6 20) (hd : decode cc pc = .ok (.getfield idx, 3)) (kk : mt_V K cc own nL d σ (pc + 3) lv (.ref (mt_adr (kG K) 67) :: st) P) : mt_V K cc own nL d σ pc lv (.ref (mt_adr (kG K) 56) :: st) P :=
  mv_getf (ci := 6) (k := 20) rfl in_X6 (mt_lt (show mt_kd 56 = 6 from rfl) (by decide)) (mt_E6 (show mt_kd 56 = 6 from rfl)) (by decide) hw rfl hd kk
end MF
theorem fl_X0_15 : mt_fl RX0 15 TX0 1 := Or.inl (lw_in 259 (by decide +kernel) rfl)
theorem fl_X0_9 : mt_fl RX0 9 TX0 0 := Or.inl (lw_in 258 (by decide +kernel) rfl)
set_option maxRecDepth 100000 in
theorem cal_X0_take : mt_cal yX0_take cX0_take 2 none 1 := ⟨lw_in 703 rfl rfl, lw_in 115 (by decide +kernel) rfl, by decide +kernel, by decide⟩
theorem ins_X0_take : mt_ins yX0_take := ⟨lw_in 702 (by decide +kernel) rfl, lw_in 47 (by decide +kernel) rfl⟩
set_option maxRecDepth 100000 in
theorem cal_X0_isLetter : mt_cal yX0_isLetter cX0_isLetter 1 (some .boolean) 1 := ⟨lw_in 722 rfl rfl, lw_in 115 (by decide +kernel) rfl, by decide +kernel, by decide⟩
theorem sta_X0_isLetter : Cond.static yX0_isLetter ∈ lw_g := lw_in 721 (by decide +kernel) rfl
theorem fl_X0_25 : mt_fl RX0 25 TX0 4 := Or.inl (lw_in 263 (by decide +kernel) rfl)
theorem ml_X0_128 : mt_ml RX0 128 yX0_isLetter := Or.inl (lw_in 720 (by decide +kernel) rfl)
set_option maxRecDepth 100000 in
theorem cal_X0_advanceLetters : mt_cal yX0_advanceLetters cX0_advanceLetters 1 none 0 := ⟨lw_in 726 rfl rfl, lw_in 115 (by decide +kernel) rfl, by decide +kernel, by decide⟩
theorem ins_X0_advanceLetters : mt_ins yX0_advanceLetters := ⟨lw_in 725 (by decide +kernel) rfl, lw_in 50 (by decide +kernel) rfl⟩
set_option maxRecDepth 100000 in
theorem cal_X0_isDigit : mt_cal yX0_isDigit cX0_isDigit 1 (some .boolean) 1 := ⟨lw_in 729 rfl rfl, lw_in 115 (by decide +kernel) rfl, by decide +kernel, by decide⟩
theorem sta_X0_isDigit : Cond.static yX0_isDigit ∈ lw_g := lw_in 728 (by decide +kernel) rfl
theorem ml_X0_134 : mt_ml RX0 134 yX0_isDigit := Or.inl (lw_in 727 (by decide +kernel) rfl)
theorem fl_X0_28 : mt_fl RX0 28 TX0 5 := Or.inl (lw_in 264 (by decide +kernel) rfl)
set_option maxRecDepth 100000 in
theorem cal_X0_advanceDigits : mt_cal yX0_advanceDigits cX0_advanceDigits 1 none 0 := ⟨lw_in 733 rfl rfl, lw_in 115 (by decide +kernel) rfl, by decide +kernel, by decide⟩
theorem ins_X0_advanceDigits : mt_ins yX0_advanceDigits := ⟨lw_in 732 (by decide +kernel) rfl, lw_in 51 (by decide +kernel) rfl⟩
theorem fl_X0_22 : mt_fl RX0 22 TX0 3 := Or.inl (lw_in 262 (by decide +kernel) rfl)
theorem fl_X0_19 : mt_fl RX0 19 TX0 2 := Or.inl (lw_in 261 (by decide +kernel) rfl)
theorem ml_X0_131 : mt_ml RX0 131 yX0_advanceLetters := Or.inl (lw_in 723 (by decide +kernel) rfl)
theorem ml_X0_137 : mt_ml RX0 137 yX0_advanceDigits := Or.inl (lw_in 730 (by decide +kernel) rfl)
set_option maxRecDepth 100000 in
theorem cal_X0_advance : mt_cal yX0_advance cX0_advance 1 none 0 := ⟨lw_in 719 rfl rfl, lw_in 115 (by decide +kernel) rfl, by decide +kernel, by decide⟩
theorem ins_X0_advance : mt_ins yX0_advance := ⟨lw_in 718 (by decide +kernel) rfl, lw_in 49 (by decide +kernel) rfl⟩
theorem ml_X0_120 : mt_ml RX0 120 yJ0_length_8abf5 := Or.inl (lw_in 747 (by decide +kernel) rfl)
theorem ml_X0_124 : mt_ml RX0 124 yJ0_charAt_5068e := Or.inl (lw_in 757 (by decide +kernel) rfl)
set_option maxRecDepth 100000 in
theorem cal_X0_isWord : mt_cal yX0_isWord cX0_isWord 3 (some .boolean) 1 := ⟨lw_in 746 rfl rfl, lw_in 115 (by decide +kernel) rfl, by decide +kernel, by decide⟩
theorem ins_X0_isWord : mt_ins yX0_isWord := ⟨lw_in 745 (by decide +kernel) rfl, lw_in 54 (by decide +kernel) rfl⟩
theorem ml_X0_51 : mt_ml RX0 51 yX0_isWord := Or.inl (lw_in 743 (by decide +kernel) rfl)
set_option maxRecDepth 100000 in
theorem cal_X0_kindTold : mt_cal yX0_kindTold cX0_kindTold 1 (some .int) 0 := ⟨lw_in 741 rfl rfl, lw_in 115 (by decide +kernel) rfl, by decide +kernel, by decide⟩
theorem ins_X0_kindTold : mt_ins yX0_kindTold := ⟨lw_in 740 (by decide +kernel) rfl, lw_in 53 (by decide +kernel) rfl⟩
theorem ml_X0_31 : mt_ml RX0 31 yX0_advance := Or.inl (lw_in 716 (by decide +kernel) rfl)
set_option maxRecDepth 100000 in
theorem cal_X0_passNumber : mt_cal yX0_passNumber cX0_passNumber 2 (some .boolean) 1 := ⟨lw_in 808 rfl rfl, lw_in 115 (by decide +kernel) rfl, by decide +kernel, by decide⟩
theorem ins_X0_passNumber : mt_ins yX0_passNumber := ⟨lw_in 807 (by decide +kernel) rfl, lw_in 56 (by decide +kernel) rfl⟩
theorem fl_X3_9 : mt_fl RX3 9 TX3 0 := Or.inl (lw_in 147 (by decide +kernel) rfl)
theorem fl_X3_15 : mt_fl RX3 15 TX3 1 := Or.inl (lw_in 150 (by decide +kernel) rfl)
theorem fl_X3_18 : mt_fl RX3 18 TX3 2 := Or.inl (lw_in 152 (by decide +kernel) rfl)
theorem fl_X3_21 : mt_fl RX3 21 TX3 3 := Or.inl (lw_in 155 (by decide +kernel) rfl)
theorem fl_X3_24 : mt_fl RX3 24 TX3 4 := Or.inl (lw_in 160 (by decide +kernel) rfl)
theorem fl_X3_27 : mt_fl RX3 27 TX3 5 := Or.inl (lw_in 164 (by decide +kernel) rfl)
theorem fl_X3_30 : mt_fl RX3 30 TX3 6 := Or.inl (lw_in 168 (by decide +kernel) rfl)
theorem fl_X3_33 : mt_fl RX3 33 TX3 7 := Or.inl (lw_in 170 (by decide +kernel) rfl)
set_option maxRecDepth 100000 in
theorem cal_X3_begin : mt_cal yX3_begin cX3_begin 5 none 4 := ⟨lw_in 378 rfl rfl, lw_in 113 (by decide +kernel) rfl, by decide +kernel, by decide⟩
theorem ins_X3_begin : mt_ins yX3_begin := ⟨lw_in 377 (by decide +kernel) rfl, lw_in 3 (by decide +kernel) rfl⟩
theorem fl_X4_37 : mt_fl RX4 37 TX4 7 := Or.inl (lw_in 209 (by decide +kernel) rfl)
theorem fl_X4_33 : mt_fl RX4 33 TX4 6 := Or.inl (lw_in 206 (by decide +kernel) rfl)
theorem fl_X4_9 : mt_fl RX4 9 TX4 0 := Or.inl (lw_in 191 (by decide +kernel) rfl)
theorem ml_X4_54 : mt_ml RX4 54 yX3_begin := Or.inr (lw_inn 375 (by decide +kernel) rfl)
set_option maxRecDepth 100000 in
theorem cal_X4_sign : mt_cal yX4_sign cX4_sign 4 none 3 := ⟨lw_in 374 rfl rfl, lw_in 112 (by decide +kernel) rfl, by decide +kernel, by decide⟩
theorem ins_X4_sign : mt_ins yX4_sign := ⟨lw_in 373 (by decide +kernel) rfl, lw_in 2 (by decide +kernel) rfl⟩
theorem fl_X0_80 : mt_fl RX0 80 TX4 7 := Or.inr (lw_inn 210 (by decide +kernel) rfl)
theorem ml_X0_59 : mt_ml RX0 59 yX0_passNumber := Or.inl (lw_in 805 (by decide +kernel) rfl)
theorem ml_X0_83 : mt_ml RX0 83 yX4_sign := Or.inr (lw_inn 809 (by decide +kernel) rfl)
set_option maxRecDepth 100000 in
theorem cal_X0_readPowers : mt_cal yX0_readPowers cX0_readPowers 5 (some .boolean) 2 := ⟨lw_in 804 rfl rfl, lw_in 115 (by decide +kernel) rfl, by decide +kernel, by decide⟩
theorem ins_X0_readPowers : mt_ins yX0_readPowers := ⟨lw_in 803 (by decide +kernel) rfl, lw_in 55 (by decide +kernel) rfl⟩
set_option maxRecDepth 100000 in
theorem cal_X5_isWithin : mt_cal yX5_isWithin cX5_isWithin 2 (some .boolean) 2 := ⟨lw_in 342 rfl rfl, lw_in 111 (by decide +kernel) rfl, by decide +kernel, by decide⟩
theorem sta_X5_isWithin : Cond.static yX5_isWithin ∈ lw_g := lw_in 341 (by decide +kernel) rfl
theorem ml_X0_72 : mt_ml RX0 72 yX5_isWithin := Or.inr (lw_inn 814 (by decide +kernel) rfl)
theorem fl_X0_87 : mt_fl RX0 87 TX4 6 := Or.inr (lw_inn 207 (by decide +kernel) rfl)
theorem fl_X0_93 : mt_fl RX0 93 TX3 3 := Or.inr (lw_inn 156 (by decide +kernel) rfl)
theorem fl_X0_99 : mt_fl RX0 99 TX3 5 := Or.inr (lw_inn 165 (by decide +kernel) rfl)
theorem fl_X0_103 : mt_fl RX0 103 TX3 4 := Or.inr (lw_inn 162 (by decide +kernel) rfl)
set_option maxRecDepth 100000 in
theorem cal_X0_readTerms : mt_cal yX0_readTerms cX0_readTerms 3 (some .boolean) 1 := ⟨lw_in 813 rfl rfl, lw_in 115 (by decide +kernel) rfl, by decide +kernel, by decide⟩
theorem ins_X0_readTerms : mt_ins yX0_readTerms := ⟨lw_in 812 (by decide +kernel) rfl, lw_in 57 (by decide +kernel) rfl⟩
theorem fl_X0_76 : mt_fl RX0 76 TX4 2 := Or.inr (lw_inn 199 (by decide +kernel) rfl)
set_option maxRecDepth 100000 in
theorem cal_X0_readEvent : mt_cal yX0_readEvent cX0_readEvent 3 (some .boolean) 1 := ⟨lw_in 824 rfl rfl, lw_in 115 (by decide +kernel) rfl, by decide +kernel, by decide⟩
theorem ins_X0_readEvent : mt_ins yX0_readEvent := ⟨lw_in 823 (by decide +kernel) rfl, lw_in 58 (by decide +kernel) rfl⟩
theorem ml_X0_38 : mt_ml RX0 38 yX0_kindTold := Or.inl (lw_in 738 (by decide +kernel) rfl)
theorem ml_X0_42 : mt_ml RX0 42 yX0_readPowers := Or.inl (lw_in 801 (by decide +kernel) rfl)
theorem ml_X0_46 : mt_ml RX0 46 yX0_readTerms := Or.inl (lw_in 810 (by decide +kernel) rfl)
theorem fl_X0_55 : mt_fl RX0 55 TX4 0 := Or.inr (lw_inn 193 (by decide +kernel) rfl)
theorem fl_X0_65 : mt_fl RX0 65 TX4 1 := Or.inr (lw_inn 196 (by decide +kernel) rfl)
theorem ml_X0_69 : mt_ml RX0 69 yX0_readEvent := Or.inl (lw_in 821 (by decide +kernel) rfl)
set_option maxRecDepth 100000 in
theorem cal_X0_readItem : mt_cal yX0_readItem cX0_readItem 3 (some .boolean) 1 := ⟨lw_in 737 rfl rfl, lw_in 115 (by decide +kernel) rfl, by decide +kernel, by decide⟩
theorem ins_X0_readItem : mt_ins yX0_readItem := ⟨lw_in 736 (by decide +kernel) rfl, lw_in 52 (by decide +kernel) rfl⟩
theorem ml_X0_34 : mt_ml RX0 34 yX0_readItem := Or.inl (lw_in 734 (by decide +kernel) rfl)
set_option maxRecDepth 100000 in
theorem cal_X0_readInto : mt_cal yX0_readInto cX0_readInto 3 (some .int) 1 := ⟨lw_in 715 rfl rfl, lw_in 115 (by decide +kernel) rfl, by decide +kernel, by decide⟩
theorem ins_X0_readInto : mt_ins yX0_readInto := ⟨lw_in 714 (by decide +kernel) rfl, lw_in 48 (by decide +kernel) rfl⟩
theorem fl_X1_9 : mt_fl RX1 9 TX1 0 := Or.inl (lw_in 286 (by decide +kernel) rfl)
set_option maxRecDepth 100000 in
theorem cal_X1_isMissing : mt_cal yX1_isMissing cX1_isMissing 1 (some .boolean) 0 := ⟨lw_in 642 rfl rfl, lw_in 116 (by decide +kernel) rfl, by decide +kernel, by decide⟩
theorem ins_X1_isMissing : mt_ins yX1_isMissing := ⟨lw_in 641 (by decide +kernel) rfl, lw_in 39 (by decide +kernel) rfl⟩
theorem mm_X1_22 : Cond.methodLink RX1 22 Lib.Math.min.name ∈ lw_g := lw_in 647 (by decide +kernel) rfl
theorem fl_X1_15 : mt_fl RX1 15 TX1 1 := Or.inl (lw_in 288 (by decide +kernel) rfl)
theorem fl_X1_18 : mt_fl RX1 18 TX1 2 := Or.inl (lw_in 290 (by decide +kernel) rfl)
set_option maxRecDepth 100000 in
theorem cal_X1_begin : mt_cal yX1_begin cX1_begin 4 none 2 := ⟨lw_in 846 rfl rfl, lw_in 116 (by decide +kernel) rfl, by decide +kernel, by decide⟩
theorem ins_X1_begin : mt_ins yX1_begin := ⟨lw_in 845 (by decide +kernel) rfl, lw_in 60 (by decide +kernel) rfl⟩
theorem ml_X1_28 : mt_ml RX1 28 yX5_isWithin := Or.inr (lw_inn 668 (by decide +kernel) rfl)
set_option maxRecDepth 100000 in
theorem cal_X1_put : mt_cal yX1_put cX1_put 3 none 2 := ⟨lw_in 854 rfl rfl, lw_in 116 (by decide +kernel) rfl, by decide +kernel, by decide⟩
theorem ins_X1_put : mt_ins yX1_put := ⟨lw_in 853 (by decide +kernel) rfl, lw_in 61 (by decide +kernel) rfl⟩
set_option maxRecDepth 100000 in
theorem cal_X1_allows : mt_cal yX1_allows cX1_allows 3 (some .boolean) 2 := ⟨lw_in 667 rfl rfl, lw_in 116 (by decide +kernel) rfl, by decide +kernel, by decide⟩
theorem ins_X1_allows : mt_ins yX1_allows := ⟨lw_in 666 (by decide +kernel) rfl, lw_in 45 (by decide +kernel) rfl⟩
set_option maxRecDepth 100000 in
theorem cal_X1_hasRange : mt_cal yX1_hasRange cX1_hasRange 3 (some .boolean) 2 := ⟨lw_in 862 rfl rfl, lw_in 116 (by decide +kernel) rfl, by decide +kernel, by decide⟩
theorem ins_X1_hasRange : mt_ins yX1_hasRange := ⟨lw_in 861 (by decide +kernel) rfl, lw_in 62 (by decide +kernel) rfl⟩
set_option maxRecDepth 100000 in
theorem cal_X1_lastTold : mt_cal yX1_lastTold cX1_lastTold 3 (some .int) 1 := ⟨lw_in 646 rfl rfl, lw_in 116 (by decide +kernel) rfl, by decide +kernel, by decide⟩
theorem ins_X1_lastTold : mt_ins yX1_lastTold := ⟨lw_in 645 (by decide +kernel) rfl, lw_in 40 (by decide +kernel) rfl⟩
theorem kc_J6_265 : Cond.constant RJ6 265 (1431655765) ∈ lw_g := lw_in 406 (by decide +kernel) rfl
theorem kc_J6_266 : Cond.constant RJ6 266 (858993459) ∈ lw_g := lw_in 407 (by decide +kernel) rfl
theorem kc_J6_267 : Cond.constant RJ6 267 (252645135) ∈ lw_g := lw_in 408 (by decide +kernel) rfl
set_option maxRecDepth 100000 in
theorem cal_J6_bitCount_0f7a4 : mt_cal yJ6_bitCount_0f7a4 cJ6_bitCount_0f7a4 1 (some .int) 1 := ⟨lw_in 405 rfl rfl, lw_in 118 (by decide +kernel) rfl, by decide +kernel, by decide⟩
theorem sta_J6_bitCount_0f7a4 : Cond.static yJ6_bitCount_0f7a4 ∈ lw_g := lw_in 404 (by decide +kernel) rfl
theorem ml_X2_41 : mt_ml RX2 41 yJ6_bitCount_0f7a4 := Or.inl (lw_in 604 (by decide +kernel) rfl)
theorem fl_X2_18 : mt_fl RX2 18 TX2 2 := Or.inl (lw_in 243 (by decide +kernel) rfl)
theorem fl_X2_11 : mt_fl RX2 11 TX2 0 := Or.inl (lw_in 241 (by decide +kernel) rfl)
theorem fl_X2_15 : mt_fl RX2 15 TX2 1 := Or.inl (lw_in 242 (by decide +kernel) rfl)
set_option maxRecDepth 100000 in
theorem cal_X2_add : mt_cal yX2_add cX2_add 3 none 2 := ⟨lw_in 603 rfl rfl, lw_in 114 (by decide +kernel) rfl, by decide +kernel, by decide⟩
theorem ins_X2_add : mt_ins yX2_add := ⟨lw_in 602 (by decide +kernel) rfl, lw_in 32 (by decide +kernel) rfl⟩
set_option maxRecDepth 100000 in
theorem cal_X3_bears : mt_cal yX3_bears cX3_bears 3 (some .int) 1 := ⟨lw_in 394 rfl rfl, lw_in 113 (by decide +kernel) rfl, by decide +kernel, by decide⟩
theorem ins_X3_bears : mt_ins yX3_bears := ⟨lw_in 393 (by decide +kernel) rfl, lw_in 6 (by decide +kernel) rfl⟩
theorem fl_X2_22 : mt_fl RX2 22 TX3 4 := Or.inr (lw_inn 159 (by decide +kernel) rfl)
theorem fl_X2_27 : mt_fl RX2 27 TX3 3 := Or.inr (lw_inn 154 (by decide +kernel) rfl)
theorem fl_X2_30 : mt_fl RX2 30 TX3 0 := Or.inr (lw_inn 148 (by decide +kernel) rfl)
theorem ml_X2_33 : mt_ml RX2 33 yX2_add := Or.inl (lw_in 600 (by decide +kernel) rfl)
theorem ml_X2_37 : mt_ml RX2 37 yX3_bears := Or.inr (lw_inn 605 (by decide +kernel) rfl)
set_option maxRecDepth 100000 in
theorem cal_X2_addOf : mt_cal yX2_addOf cX2_addOf 4 none 2 := ⟨lw_in 599 rfl rfl, lw_in 114 (by decide +kernel) rfl, by decide +kernel, by decide⟩
theorem ins_X2_addOf : mt_ins yX2_addOf := ⟨lw_in 598 (by decide +kernel) rfl, lw_in 31 (by decide +kernel) rfl⟩
set_option maxRecDepth 100000 in
theorem cal_X2_areEasedBy : mt_cal yX2_areEasedBy cX2_areEasedBy 3 (some .boolean) 1 := ⟨lw_in 610 rfl rfl, lw_in 114 (by decide +kernel) rfl, by decide +kernel, by decide⟩
theorem ins_X2_areEasedBy : mt_ins yX2_areEasedBy := ⟨lw_in 609 (by decide +kernel) rfl, lw_in 33 (by decide +kernel) rfl⟩
set_option maxRecDepth 100000 in
theorem cal_X3_become : mt_cal yX3_become cX3_become 2 none 1 := ⟨lw_in 540 rfl rfl, lw_in 113 (by decide +kernel) rfl, by decide +kernel, by decide⟩
theorem ins_X3_become : mt_ins yX3_become := ⟨lw_in 539 (by decide +kernel) rfl, lw_in 27 (by decide +kernel) rfl⟩
set_option maxRecDepth 100000 in
theorem cal_X3_fades : mt_cal yX3_fades cX3_fades 1 (some .int) 0 := ⟨lw_in 398 rfl rfl, lw_in 113 (by decide +kernel) rfl, by decide +kernel, by decide⟩
theorem ins_X3_fades : mt_ins yX3_fades := ⟨lw_in 397 (by decide +kernel) rfl, lw_in 7 (by decide +kernel) rfl⟩
theorem ml_X3_50 : mt_ml RX3 50 yJ6_bitCount_0f7a4 := Or.inl (lw_in 403 (by decide +kernel) rfl)
set_option maxRecDepth 100000 in
theorem cal_X3_yields : mt_cal yX3_yields cX3_yields 1 (some .int) 0 := ⟨lw_in 402 rfl rfl, lw_in 113 (by decide +kernel) rfl, by decide +kernel, by decide⟩
theorem ins_X3_yields : mt_ins yX3_yields := ⟨lw_in 401 (by decide +kernel) rfl, lw_in 8 (by decide +kernel) rfl⟩
set_option maxRecDepth 100000 in
theorem cal_X3_renews : mt_cal yX3_renews cX3_renews 1 (some .int) 0 := ⟨lw_in 412 rfl rfl, lw_in 113 (by decide +kernel) rfl, by decide +kernel, by decide⟩
theorem ins_X3_renews : mt_ins yX3_renews := ⟨lw_in 411 (by decide +kernel) rfl, lw_in 9 (by decide +kernel) rfl⟩
theorem ml_X3_36 : mt_ml RX3 36 yX3_bears := Or.inl (lw_in 391 (by decide +kernel) rfl)
theorem ml_X3_40 : mt_ml RX3 40 yX3_fades := Or.inl (lw_in 395 (by decide +kernel) rfl)
theorem ml_X3_44 : mt_ml RX3 44 yX3_yields := Or.inl (lw_in 399 (by decide +kernel) rfl)
theorem ml_X3_47 : mt_ml RX3 47 yX3_renews := Or.inl (lw_in 409 (by decide +kernel) rfl)
set_option maxRecDepth 100000 in
theorem cal_X3_tell : mt_cal yX3_tell cX3_tell 3 (some .int) 2 := ⟨lw_in 390 rfl rfl, lw_in 113 (by decide +kernel) rfl, by decide +kernel, by decide⟩
theorem ins_X3_tell : mt_ins yX3_tell := ⟨lw_in 389 (by decide +kernel) rfl, lw_in 5 (by decide +kernel) rfl⟩
theorem ml_X5_67 : mt_ml RX5 67 yX5_isWithin := Or.inl (lw_in 340 (by decide +kernel) rfl)
set_option maxRecDepth 100000 in
theorem cal_X5_isPair : mt_cal yX5_isPair cX5_isPair 2 (some .boolean) 2 := ⟨lw_in 370 rfl rfl, lw_in 111 (by decide +kernel) rfl, by decide +kernel, by decide⟩
theorem sta_X5_isPair : Cond.static yX5_isPair ∈ lw_g := lw_in 369 (by decide +kernel) rfl
theorem ml_X3_55 : mt_ml RX3 55 yX5_isWithin := Or.inr (lw_inn 421 (by decide +kernel) rfl)
theorem ml_X3_59 : mt_ml RX3 59 yX5_isPair := Or.inr (lw_inn 422 (by decide +kernel) rfl)
set_option maxRecDepth 100000 in
theorem cal_X3_takes : mt_cal yX3_takes cX3_takes 3 (some .boolean) 2 := ⟨lw_in 420 rfl rfl, lw_in 113 (by decide +kernel) rfl, by decide +kernel, by decide⟩
theorem ins_X3_takes : mt_ins yX3_takes := ⟨lw_in 419 (by decide +kernel) rfl, lw_in 10 (by decide +kernel) rfl⟩
set_option maxRecDepth 100000 in
theorem cal_X3_alter : mt_cal yX3_alter cX3_alter 3 none 2 := ⟨lw_in 426 rfl rfl, lw_in 113 (by decide +kernel) rfl, by decide +kernel, by decide⟩
theorem ins_X3_alter : mt_ins yX3_alter := ⟨lw_in 425 (by decide +kernel) rfl, lw_in 11 (by decide +kernel) rfl⟩
set_option maxRecDepth 100000 in
theorem cal_X3_isA : mt_cal yX3_isA cX3_isA 4 (some .boolean) 1 := ⟨lw_in 836 rfl rfl, lw_in 113 (by decide +kernel) rfl, by decide +kernel, by decide⟩
theorem ins_X3_isA : mt_ins yX3_isA := ⟨lw_in 835 (by decide +kernel) rfl, lw_in 59 (by decide +kernel) rfl⟩
set_option maxRecDepth 100000 in
theorem cal_X3_isOverborne : mt_cal yX3_isOverborne cX3_isOverborne 2 (some .boolean) 1 := ⟨lw_in 474 rfl rfl, lw_in 113 (by decide +kernel) rfl, by decide +kernel, by decide⟩
theorem ins_X3_isOverborne : mt_ins yX3_isOverborne := ⟨lw_in 473 (by decide +kernel) rfl, lw_in 17 (by decide +kernel) rfl⟩
theorem mm_X3_74 : Cond.methodLink RX3 74 Lib.Math.min.name ∈ lw_g := lw_in 470 (by decide +kernel) rfl
set_option maxRecDepth 100000 in
theorem cal_X3_await : mt_cal yX3_await cX3_await 3 none 1 := ⟨lw_in 469 rfl rfl, lw_in 113 (by decide +kernel) rfl, by decide +kernel, by decide⟩
theorem ins_X3_await : mt_ins yX3_await := ⟨lw_in 468 (by decide +kernel) rfl, lw_in 16 (by decide +kernel) rfl⟩
set_option maxRecDepth 100000 in
theorem cal_X3_isToFade : mt_cal yX3_isToFade cX3_isToFade 3 (some .boolean) 1 := ⟨lw_in 482 rfl rfl, lw_in 113 (by decide +kernel) rfl, by decide +kernel, by decide⟩
theorem ins_X3_isToFade : mt_ins yX3_isToFade := ⟨lw_in 481 (by decide +kernel) rfl, lw_in 19 (by decide +kernel) rfl⟩
theorem kc_J6_264 : Cond.constant RJ6 264 (65536) ∈ lw_g := lw_in 490 (by decide +kernel) rfl
set_option maxRecDepth 100000 in
theorem cal_J6_numberOfLeadingZeros_0f7a4 : mt_cal yJ6_numberOfLeadingZeros_0f7a4 cJ6_numberOfLeadingZeros_0f7a4 2 (some .int) 1 := ⟨lw_in 489 rfl rfl, lw_in 118 (by decide +kernel) rfl, by decide +kernel, by decide⟩
theorem sta_J6_numberOfLeadingZeros_0f7a4 : Cond.static yJ6_numberOfLeadingZeros_0f7a4 ∈ lw_g := lw_in 488 (by decide +kernel) rfl
theorem kc_J6_127 : Cond.constant RJ6 127 (-2147483648) ∈ lw_g := lw_in 486 (by decide +kernel) rfl
theorem ml_J6_51 : mt_ml RJ6 51 yJ6_numberOfLeadingZeros_0f7a4 := Or.inl (lw_in 487 (by decide +kernel) rfl)
set_option maxRecDepth 100000 in
theorem cal_J6_highestOneBit_0f7a4 : mt_cal yJ6_highestOneBit_0f7a4 cJ6_highestOneBit_0f7a4 1 (some .int) 1 := ⟨lw_in 485 rfl rfl, lw_in 118 (by decide +kernel) rfl, by decide +kernel, by decide⟩
theorem sta_J6_highestOneBit_0f7a4 : Cond.static yJ6_highestOneBit_0f7a4 ∈ lw_g := lw_in 484 (by decide +kernel) rfl
theorem ml_X3_86 : mt_ml RX3 86 yX3_isToFade := Or.inl (lw_in 479 (by decide +kernel) rfl)
theorem ml_X3_89 : mt_ml RX3 89 yJ6_highestOneBit_0f7a4 := Or.inl (lw_in 483 (by decide +kernel) rfl)
set_option maxRecDepth 100000 in
theorem cal_X3_fade : mt_cal yX3_fade cX3_fade 1 none 0 := ⟨lw_in 478 rfl rfl, lw_in 113 (by decide +kernel) rfl, by decide +kernel, by decide⟩
theorem ins_X3_fade : mt_ins yX3_fade := ⟨lw_in 477 (by decide +kernel) rfl, lw_in 18 (by decide +kernel) rfl⟩
theorem ml_X3_66 : mt_ml RX3 66 yX3_await := Or.inl (lw_in 466 (by decide +kernel) rfl)
theorem ml_X3_70 : mt_ml RX3 70 yX3_isOverborne := Or.inl (lw_in 471 (by decide +kernel) rfl)
theorem ml_X3_80 : mt_ml RX3 80 yX3_fade := Or.inl (lw_in 475 (by decide +kernel) rfl)
set_option maxRecDepth 100000 in
theorem cal_X3_live : mt_cal yX3_live cX3_live 4 (some .int) 2 := ⟨lw_in 465 rfl rfl, lw_in 113 (by decide +kernel) rfl, by decide +kernel, by decide⟩
theorem ins_X3_live : mt_ins yX3_live := ⟨lw_in 464 (by decide +kernel) rfl, lw_in 15 (by decide +kernel) rfl⟩
theorem ml_X3_83 : mt_ml RX3 83 yX3_live := Or.inl (lw_in 545 (by decide +kernel) rfl)
set_option maxRecDepth 100000 in
theorem cal_X3_liveYears : mt_cal yX3_liveYears cX3_liveYears 6 (some .int) 3 := ⟨lw_in 544 rfl rfl, lw_in 113 (by decide +kernel) rfl, by decide +kernel, by decide⟩
theorem ins_X3_liveYears : mt_ins yX3_liveYears := ⟨lw_in 543 (by decide +kernel) rfl, lw_in 28 (by decide +kernel) rfl⟩
set_option maxRecDepth 100000 in
theorem cal_X3_fadesWithin : mt_cal yX3_fadesWithin cX3_fadesWithin 3 (some .boolean) 1 := ⟨lw_in 655 rfl rfl, lw_in 113 (by decide +kernel) rfl, by decide +kernel, by decide⟩
theorem ins_X3_fadesWithin : mt_ins yX3_fadesWithin := ⟨lw_in 654 (by decide +kernel) rfl, lw_in 42 (by decide +kernel) rfl⟩
theorem fl_X4_15 : mt_fl RX4 15 TX4 1 := Or.inl (lw_in 194 (by decide +kernel) rfl)
theorem fl_X4_18 : mt_fl RX4 18 TX4 2 := Or.inl (lw_in 197 (by decide +kernel) rfl)
theorem ml_X4_44 : Cond.methodLink RX4 44 arraycopyName ∈ lw_g := lw_in 554 (by decide +kernel) rfl
theorem fl_X4_22 : mt_fl RX4 22 TX4 3 := Or.inl (lw_in 200 (by decide +kernel) rfl)
theorem fl_X4_25 : mt_fl RX4 25 TX4 4 := Or.inl (lw_in 202 (by decide +kernel) rfl)
theorem fl_X4_28 : mt_fl RX4 28 TX4 5 := Or.inl (lw_in 204 (by decide +kernel) rfl)
theorem ml_X4_50 : mt_ml RX4 50 yX3_become := Or.inr (lw_inn 557 (by decide +kernel) rfl)
theorem fl_X4_40 : mt_fl RX4 40 TX4 8 := Or.inl (lw_in 212 (by decide +kernel) rfl)
set_option maxRecDepth 100000 in
theorem cal_X4_become : mt_cal yX4_become cX4_become 3 none 1 := ⟨lw_in 553 rfl rfl, lw_in 112 (by decide +kernel) rfl, by decide +kernel, by decide⟩
theorem ins_X4_become : mt_ins yX4_become := ⟨lw_in 552 (by decide +kernel) rfl, lw_in 29 (by decide +kernel) rfl⟩
theorem kc_X4_58 : Cond.constant RX4 58 (1103515245) ∈ lw_g := lw_in 681 (by decide +kernel) rfl
set_option maxRecDepth 100000 in
theorem cal_X4_draw : mt_cal yX4_draw cX4_draw 1 (some .int) 0 := ⟨lw_in 680 rfl rfl, lw_in 112 (by decide +kernel) rfl, by decide +kernel, by decide⟩
theorem ins_X4_draw : mt_ins yX4_draw := ⟨lw_in 679 (by decide +kernel) rfl, lw_in 46 (by decide +kernel) rfl⟩
set_option maxRecDepth 100000 in
theorem cal_X5_toggled : mt_cal yX5_toggled cX5_toggled 2 (some .int) 2 := ⟨lw_in 461 rfl rfl, lw_in 111 (by decide +kernel) rfl, by decide +kernel, by decide⟩
theorem sta_X5_toggled : Cond.static yX5_toggled ∈ lw_g := lw_in 460 (by decide +kernel) rfl
theorem ml_X4_62 : mt_ml RX4 62 yX5_toggled := Or.inr (lw_inn 459 (by decide +kernel) rfl)
theorem ml_X4_66 : mt_ml RX4 66 yX3_live := Or.inr (lw_inn 462 (by decide +kernel) rfl)
theorem kc_X4_69 : Cond.constant RX4 69 (99999) ∈ lw_g := lw_in 491 (by decide +kernel) rfl
theorem mm_X4_70 : Cond.methodLink RX4 70 Lib.Math.min.name ∈ lw_g := lw_in 492 (by decide +kernel) rfl
set_option maxRecDepth 100000 in
theorem cal_X4_pass : mt_cal yX4_pass cX4_pass 2 none 0 := ⟨lw_in 458 rfl rfl, lw_in 112 (by decide +kernel) rfl, by decide +kernel, by decide⟩
theorem ins_X4_pass : mt_ins yX4_pass := ⟨lw_in 457 (by decide +kernel) rfl, lw_in 14 (by decide +kernel) rfl⟩
theorem ml_X4_59 : mt_ml RX4 59 yX4_pass := Or.inl (lw_in 455 (by decide +kernel) rfl)
set_option maxRecDepth 100000 in
theorem cal_X4_passYears : mt_cal yX4_passYears cX4_passYears 3 none 1 := ⟨lw_in 454 rfl rfl, lw_in 112 (by decide +kernel) rfl, by decide +kernel, by decide⟩
theorem ins_X4_passYears : mt_ins yX4_passYears := ⟨lw_in 453 (by decide +kernel) rfl, lw_in 13 (by decide +kernel) rfl⟩
theorem fl_X4_75 : mt_fl RX4 75 TX3 4 := Or.inr (lw_inn 161 (by decide +kernel) rfl)
set_option maxRecDepth 100000 in
theorem cal_X4_inForce : mt_cal yX4_inForce cX4_inForce 3 (some .int) 0 := ⟨lw_in 496 rfl rfl, lw_in 112 (by decide +kernel) rfl, by decide +kernel, by decide⟩
theorem ins_X4_inForce : mt_ins yX4_inForce := ⟨lw_in 495 (by decide +kernel) rfl, lw_in 20 (by decide +kernel) rfl⟩
theorem ml_X4_78 : mt_ml RX4 78 yX3_isOverborne := Or.inr (lw_inn 515 (by decide +kernel) rfl)
set_option maxRecDepth 100000 in
theorem cal_X4_breaking : mt_cal yX4_breaking cX4_breaking 3 (some .int) 0 := ⟨lw_in 514 rfl rfl, lw_in 112 (by decide +kernel) rfl, by decide +kernel, by decide⟩
theorem ins_X4_breaking : mt_ins yX4_breaking := ⟨lw_in 513 (by decide +kernel) rfl, lw_in 22 (by decide +kernel) rfl⟩
theorem fl_X4_82 : mt_fl RX4 82 TX3 3 := Or.inr (lw_inn 157 (by decide +kernel) rfl)
set_option maxRecDepth 100000 in
theorem cal_X4_marksInForce : mt_cal yX4_marksInForce cX4_marksInForce 3 (some .int) 0 := ⟨lw_in 519 rfl rfl, lw_in 112 (by decide +kernel) rfl, by decide +kernel, by decide⟩
theorem ins_X4_marksInForce : mt_ins yX4_marksInForce := ⟨lw_in 518 (by decide +kernel) rfl, lw_in 23 (by decide +kernel) rfl⟩
theorem fl_X4_85 : mt_fl RX4 85 TX3 5 := Or.inr (lw_inn 166 (by decide +kernel) rfl)
set_option maxRecDepth 100000 in
theorem cal_X4_longestHeld : mt_cal yX4_longestHeld cX4_longestHeld 4 (some .int) 0 := ⟨lw_in 523 rfl rfl, lw_in 112 (by decide +kernel) rfl, by decide +kernel, by decide⟩
theorem ins_X4_longestHeld : mt_ins yX4_longestHeld := ⟨lw_in 522 (by decide +kernel) rfl, lw_in 24 (by decide +kernel) rfl⟩
theorem fl_X4_88 : mt_fl RX4 88 TX3 7 := Or.inr (lw_inn 171 (by decide +kernel) rfl)
set_option maxRecDepth 100000 in
theorem cal_X4_allBroken : mt_cal yX4_allBroken cX4_allBroken 3 (some .int) 0 := ⟨lw_in 504 rfl rfl, lw_in 112 (by decide +kernel) rfl, by decide +kernel, by decide⟩
theorem ins_X4_allBroken : mt_ins yX4_allBroken := ⟨lw_in 503 (by decide +kernel) rfl, lw_in 21 (by decide +kernel) rfl⟩
set_option maxRecDepth 100000 in
theorem cal_X4_spotsHolding : mt_cal yX4_spotsHolding cX4_spotsHolding 3 (some .int) 0 := ⟨lw_in 891 rfl rfl, lw_in 112 (by decide +kernel) rfl, by decide +kernel, by decide⟩
theorem ins_X4_spotsHolding : mt_ins yX4_spotsHolding := ⟨lw_in 890 (by decide +kernel) rfl, lw_in 63 (by decide +kernel) rfl⟩
theorem mm_X5_287 : Cond.methodLink RX5 287 Lib.Math.min.name ∈ lw_g := lw_in 438 (by decide +kernel) rfl
theorem mm_X5_296 : Cond.methodLink RX5 296 Lib.Math.max.name ∈ lw_g := lw_in 441 (by decide +kernel) rfl
set_option maxRecDepth 100000 in
theorem cal_X5_pair : mt_cal yX5_pair cX5_pair 2 (some .long) 2 := ⟨lw_in 437 rfl rfl, lw_in 111 (by decide +kernel) rfl, by decide +kernel, by decide⟩
theorem sta_X5_pair : Cond.static yX5_pair ∈ lw_g := lw_in 436 (by decide +kernel) rfl
theorem fl_X4_91 : mt_fl RX4 91 TX3 1 := Or.inr (lw_inn 151 (by decide +kernel) rfl)
theorem fl_X4_94 : mt_fl RX4 94 TX3 2 := Or.inr (lw_inn 153 (by decide +kernel) rfl)
theorem ml_X4_97 : mt_ml RX4 97 yX5_pair := Or.inr (lw_inn 435 (by decide +kernel) rfl)
theorem kc_X4_101 : Cond.constantLong RX4 101 (-1) ∈ lw_g := lw_in 444 (by decide +kernel) rfl
set_option maxRecDepth 100000 in
theorem cal_X4_pairsAtWar : mt_cal yX4_pairsAtWar cX4_pairsAtWar 8 (some .long) 0 := ⟨lw_in 434 rfl rfl, lw_in 112 (by decide +kernel) rfl, by decide +kernel, by decide⟩
theorem ins_X4_pairsAtWar : mt_ins yX4_pairsAtWar := ⟨lw_in 433 (by decide +kernel) rfl, lw_in 12 (by decide +kernel) rfl⟩
theorem fl_X5_63 : mt_fl RX5 63 TX5 11 := Or.inl (lw_in 310 (by decide +kernel) rfl)
theorem kc_X5_295 : Cond.constant RX5 295 (-1000001) ∈ lw_g := lw_in 347 (by decide +kernel) rfl
set_option maxRecDepth 100000 in
theorem cal_X5_finding : mt_cal yX5_finding cX5_finding 2 (some .int) 1 := ⟨lw_in 346 rfl rfl, lw_in 111 (by decide +kernel) rfl, by decide +kernel, by decide⟩
theorem ins_X5_finding : mt_ins yX5_finding := ⟨lw_in 345 (by decide +kernel) rfl, lw_in 0 (by decide +kernel) rfl⟩
theorem fl_X5_10 : mt_fl RX5 10 TX5 0 := Or.inl (lw_in 299 (by decide +kernel) rfl)
theorem fl_X5_78 : mt_fl RX5 78 TX4 0 := Or.inr (lw_inn 192 (by decide +kernel) rfl)
theorem fl_X5_82 : mt_fl RX5 82 TX4 1 := Or.inr (lw_inn 195 (by decide +kernel) rfl)
set_option maxRecDepth 100000 in
theorem cal_X5_figuresOf : mt_cal yX5_figuresOf cX5_figuresOf 2 (some .int) 1 := ⟨lw_in 351 rfl rfl, lw_in 111 (by decide +kernel) rfl, by decide +kernel, by decide⟩
theorem ins_X5_figuresOf : mt_ins yX5_figuresOf := ⟨lw_in 350 (by decide +kernel) rfl, lw_in 1 (by decide +kernel) rfl⟩
theorem ml_X5_71 : mt_ml RX5 71 yX5_finding := Or.inl (lw_in 343 (by decide +kernel) rfl)
theorem ml_X5_75 : mt_ml RX5 75 yX5_figuresOf := Or.inl (lw_in 348 (by decide +kernel) rfl)
set_option maxRecDepth 100000 in
theorem cal_X5_set : mt_cal yX5_set cX5_set 4 (some .int) 2 := ⟨lw_in 339 rfl rfl, lw_in 111 (by decide +kernel) rfl, by decide +kernel, by decide⟩
theorem ins_X5_set : mt_ins yX5_set := ⟨lw_in 337 (by decide +kernel) rfl, lw_in 338 (by decide +kernel) rfl⟩
set_option maxRecDepth 100000 in
theorem cal_X5_seen : mt_cal yX5_seen cX5_seen 2 (some .int) 1 := ⟨lw_in 355 rfl rfl, lw_in 111 (by decide +kernel) rfl, by decide +kernel, by decide⟩
theorem ins_X5_seen : mt_ins yX5_seen := ⟨lw_in 353 (by decide +kernel) rfl, lw_in 354 (by decide +kernel) rfl⟩
theorem fl_X5_85 : mt_fl RX5 85 TX4 2 := Or.inr (lw_inn 198 (by decide +kernel) rfl)
set_option maxRecDepth 100000 in
theorem cal_X5_event : mt_cal yX5_event cX5_event 4 (some .int) 2 := ⟨lw_in 359 rfl rfl, lw_in 111 (by decide +kernel) rfl, by decide +kernel, by decide⟩
theorem ins_X5_event : mt_ins yX5_event := ⟨lw_in 357 (by decide +kernel) rfl, lw_in 358 (by decide +kernel) rfl⟩
set_option maxRecDepth 100000 in
theorem cal_X5_listed : mt_cal yX5_listed cX5_listed 2 (some .int) 1 := ⟨lw_in 363 rfl rfl, lw_in 111 (by decide +kernel) rfl, by decide +kernel, by decide⟩
theorem ins_X5_listed : mt_ins yX5_listed := ⟨lw_in 361 (by decide +kernel) rfl, lw_in 362 (by decide +kernel) rfl⟩
theorem ml_X5_88 : mt_ml RX5 88 yX5_isPair := Or.inl (lw_in 368 (by decide +kernel) rfl)
theorem fl_X5_91 : mt_fl RX5 91 TX4 7 := Or.inr (lw_inn 211 (by decide +kernel) rfl)
theorem ml_X5_94 : mt_ml RX5 94 yX4_sign := Or.inr (lw_inn 371 (by decide +kernel) rfl)
set_option maxRecDepth 100000 in
theorem cal_X5_treaty : mt_cal yX5_treaty cX5_treaty 4 (some .int) 3 := ⟨lw_in 367 rfl rfl, lw_in 111 (by decide +kernel) rfl, by decide +kernel, by decide⟩
theorem ins_X5_treaty : mt_ins yX5_treaty := ⟨lw_in 365 (by decide +kernel) rfl, lw_in 366 (by decide +kernel) rfl⟩
set_option maxRecDepth 100000 in
theorem cal_X5_isTreaty : mt_cal yX5_isTreaty cX5_isTreaty 2 (some .boolean) 1 := ⟨lw_in 386 rfl rfl, lw_in 111 (by decide +kernel) rfl, by decide +kernel, by decide⟩
theorem ins_X5_isTreaty : mt_ins yX5_isTreaty := ⟨lw_in 385 (by decide +kernel) rfl, lw_in 4 (by decide +kernel) rfl⟩
theorem ml_X5_98 : mt_ml RX5 98 yX5_isTreaty := Or.inl (lw_in 383 (by decide +kernel) rfl)
theorem fl_X5_102 : mt_fl RX5 102 TX4 6 := Or.inr (lw_inn 208 (by decide +kernel) rfl)
theorem ml_X5_106 : mt_ml RX5 106 yX3_tell := Or.inr (lw_inn 387 (by decide +kernel) rfl)
set_option maxRecDepth 100000 in
theorem cal_X5_of : mt_cal yX5_of cX5_of 3 (some .int) 2 := ⟨lw_in 382 rfl rfl, lw_in 111 (by decide +kernel) rfl, by decide +kernel, by decide⟩
theorem ins_X5_of : mt_ins yX5_of := ⟨lw_in 380 (by decide +kernel) rfl, lw_in 381 (by decide +kernel) rfl⟩
theorem ml_X5_110 : mt_ml RX5 110 yX3_takes := Or.inr (lw_inn 417 (by decide +kernel) rfl)
theorem ml_X5_113 : mt_ml RX5 113 yX3_alter := Or.inr (lw_inn 423 (by decide +kernel) rfl)
set_option maxRecDepth 100000 in
theorem cal_X5_change : mt_cal yX5_change cX5_change 6 (some .int) 3 := ⟨lw_in 416 rfl rfl, lw_in 111 (by decide +kernel) rfl, by decide +kernel, by decide⟩
theorem ins_X5_change : mt_ins yX5_change := ⟨lw_in 414 (by decide +kernel) rfl, lw_in 415 (by decide +kernel) rfl⟩
theorem ml_X5_117 : mt_ml RX5 117 yX4_pairsAtWar := Or.inr (lw_inn 431 (by decide +kernel) rfl)
theorem ml_X5_121 : mt_ml RX5 121 yX5_pair := Or.inl (lw_in 445 (by decide +kernel) rfl)
set_option maxRecDepth 100000 in
theorem cal_X5_wars : mt_cal yX5_wars cX5_wars 6 (some .int) 1 := ⟨lw_in 430 rfl rfl, lw_in 111 (by decide +kernel) rfl, by decide +kernel, by decide⟩
theorem ins_X5_wars : mt_ins yX5_wars := ⟨lw_in 428 (by decide +kernel) rfl, lw_in 429 (by decide +kernel) rfl⟩
theorem fl_X5_125 : mt_fl RX5 125 TX4 4 := Or.inr (lw_inn 203 (by decide +kernel) rfl)
theorem kc_X5_128 : Cond.constant RX5 128 (99999) ∈ lw_g := lw_in 450 (by decide +kernel) rfl
theorem ml_X5_129 : mt_ml RX5 129 yX4_passYears := Or.inr (lw_inn 451 (by decide +kernel) rfl)
theorem ml_X5_133 : mt_ml RX5 133 yX4_inForce := Or.inr (lw_inn 493 (by decide +kernel) rfl)
set_option maxRecDepth 100000 in
theorem cal_X5_go : mt_cal yX5_go cX5_go 2 (some .int) 1 := ⟨lw_in 449 rfl rfl, lw_in 111 (by decide +kernel) rfl, by decide +kernel, by decide⟩
theorem ins_X5_go : mt_ins yX5_go := ⟨lw_in 447 (by decide +kernel) rfl, lw_in 448 (by decide +kernel) rfl⟩
theorem kc_J13_314 : Cond.constantLong RJ13 314 (6148914691236517205) ∈ lw_g := lw_in 508 (by decide +kernel) rfl
theorem kc_J13_316 : Cond.constantLong RJ13 316 (3689348814741910323) ∈ lw_g := lw_in 509 (by decide +kernel) rfl
theorem kc_J13_318 : Cond.constantLong RJ13 318 (1085102592571150095) ∈ lw_g := lw_in 510 (by decide +kernel) rfl
set_option maxRecDepth 100000 in
theorem cal_J13_bitCount_95d88 : mt_cal yJ13_bitCount_95d88 cJ13_bitCount_95d88 2 (some .int) 1 := ⟨lw_in 507 rfl rfl, lw_in 120 (by decide +kernel) rfl, by decide +kernel, by decide⟩
theorem sta_J13_bitCount_95d88 : Cond.static yJ13_bitCount_95d88 ∈ lw_g := lw_in 506 (by decide +kernel) rfl
theorem fl_X5_137 : mt_fl RX5 137 TX4 3 := Or.inr (lw_inn 201 (by decide +kernel) rfl)
theorem ml_X5_140 : mt_ml RX5 140 yX4_allBroken := Or.inr (lw_inn 501 (by decide +kernel) rfl)
theorem ml_X5_143 : mt_ml RX5 143 yJ13_bitCount_95d88 := Or.inl (lw_in 505 (by decide +kernel) rfl)
theorem ml_X5_149 : mt_ml RX5 149 yX4_breaking := Or.inr (lw_inn 511 (by decide +kernel) rfl)
theorem ml_X5_152 : mt_ml RX5 152 yX4_marksInForce := Or.inr (lw_inn 516 (by decide +kernel) rfl)
theorem ml_X5_155 : mt_ml RX5 155 yX4_longestHeld := Or.inr (lw_inn 520 (by decide +kernel) rfl)
set_option maxRecDepth 100000 in
theorem cal_X5_now : mt_cal yX5_now cX5_now 2 (some .int) 1 := ⟨lw_in 500 rfl rfl, lw_in 111 (by decide +kernel) rfl, by decide +kernel, by decide⟩
theorem ins_X5_now : mt_ins yX5_now := ⟨lw_in 498 (by decide +kernel) rfl, lw_in 499 (by decide +kernel) rfl⟩
theorem ml_X5_302 : mt_ml RX5 302 yX5_toggled := Or.inl (lw_in 532 (by decide +kernel) rfl)
theorem fl_X5_33 : mt_fl RX5 33 TX5 5 := Or.inl (lw_in 304 (by decide +kernel) rfl)
set_option maxRecDepth 100000 in
theorem cal_X5_foreseeUps : mt_cal yX5_foreseeUps cX5_foreseeUps 5 none 1 := ⟨lw_in 531 rfl rfl, lw_in 111 (by decide +kernel) rfl, by decide +kernel, by decide⟩
theorem ins_X5_foreseeUps : mt_ins yX5_foreseeUps := ⟨lw_in 530 (by decide +kernel) rfl, lw_in 25 (by decide +kernel) rfl⟩
theorem fl_X5_29 : mt_fl RX5 29 TX5 4 := Or.inl (lw_in 303 (by decide +kernel) rfl)
theorem ml_X5_299 : mt_ml RX5 299 yX3_become := Or.inr (lw_inn 537 (by decide +kernel) rfl)
set_option maxRecDepth 100000 in
theorem cal_X5_tryAlone : mt_cal yX5_tryAlone cX5_tryAlone 2 none 1 := ⟨lw_in 536 rfl rfl, lw_in 111 (by decide +kernel) rfl, by decide +kernel, by decide⟩
theorem ins_X5_tryAlone : mt_ins yX5_tryAlone := ⟨lw_in 535 (by decide +kernel) rfl, lw_in 26 (by decide +kernel) rfl⟩
theorem ml_X5_158 : mt_ml RX5 158 yX5_foreseeUps := Or.inl (lw_in 528 (by decide +kernel) rfl)
theorem ml_X5_161 : mt_ml RX5 161 yX5_tryAlone := Or.inl (lw_in 533 (by decide +kernel) rfl)
theorem ml_X5_164 : mt_ml RX5 164 yX3_liveYears := Or.inr (lw_inn 541 (by decide +kernel) rfl)
set_option maxRecDepth 100000 in
theorem cal_X5_ahead : mt_cal yX5_ahead cX5_ahead 5 (some .int) 3 := ⟨lw_in 527 rfl rfl, lw_in 111 (by decide +kernel) rfl, by decide +kernel, by decide⟩
theorem ins_X5_ahead : mt_ins yX5_ahead := ⟨lw_in 525 (by decide +kernel) rfl, lw_in 526 (by decide +kernel) rfl⟩
theorem fl_X5_23 : mt_fl RX5 23 TX5 3 := Or.inl (lw_in 302 (by decide +kernel) rfl)
theorem ml_X5_168 : mt_ml RX5 168 yX4_become := Or.inr (lw_inn 550 (by decide +kernel) rfl)
set_option maxRecDepth 100000 in
theorem cal_X5_gold : mt_cal yX5_gold cX5_gold 2 (some .int) 1 := ⟨lw_in 549 rfl rfl, lw_in 111 (by decide +kernel) rfl, by decide +kernel, by decide⟩
theorem ins_X5_gold : mt_ins yX5_gold := ⟨lw_in 547 (by decide +kernel) rfl, lw_in 548 (by decide +kernel) rfl⟩
theorem fl_X5_172 : mt_fl RX5 172 TX3 7 := Or.inr (lw_inn 172 (by decide +kernel) rfl)
theorem ml_X5_175 : mt_ml RX5 175 yX3_live := Or.inr (lw_inn 562 (by decide +kernel) rfl)
set_option maxRecDepth 100000 in
theorem cal_X5_breaks : mt_cal yX5_breaks cX5_breaks 4 (some .int) 1 := ⟨lw_in 561 rfl rfl, lw_in 111 (by decide +kernel) rfl, by decide +kernel, by decide⟩
theorem ins_X5_breaks : mt_ins yX5_breaks := ⟨lw_in 559 (by decide +kernel) rfl, lw_in 560 (by decide +kernel) rfl⟩
theorem ml_X5_178 : mt_ml RX5 178 yX4_pass := Or.inr (lw_inn 567 (by decide +kernel) rfl)
set_option maxRecDepth 100000 in
theorem cal_X5_war : mt_cal yX5_war cX5_war 6 (some .int) 2 := ⟨lw_in 566 rfl rfl, lw_in 111 (by decide +kernel) rfl, by decide +kernel, by decide⟩
theorem ins_X5_war : mt_ins yX5_war := ⟨lw_in 564 (by decide +kernel) rfl, lw_in 565 (by decide +kernel) rfl⟩
set_option maxRecDepth 100000 in
theorem cal_X5_peace : mt_cal yX5_peace cX5_peace 2 (some .int) 0 := ⟨lw_in 571 rfl rfl, lw_in 111 (by decide +kernel) rfl, by decide +kernel, by decide⟩
theorem ins_X5_peace : mt_ins yX5_peace := ⟨lw_in 569 (by decide +kernel) rfl, lw_in 570 (by decide +kernel) rfl⟩
theorem fl_X5_181 : mt_fl RX5 181 TX3 5 := Or.inr (lw_inn 167 (by decide +kernel) rfl)
set_option maxRecDepth 100000 in
theorem cal_X5_when : mt_cal yX5_when cX5_when 4 (some .int) 2 := ⟨lw_in 575 rfl rfl, lw_in 111 (by decide +kernel) rfl, by decide +kernel, by decide⟩
theorem ins_X5_when : mt_ins yX5_when := ⟨lw_in 573 (by decide +kernel) rfl, lw_in 574 (by decide +kernel) rfl⟩
set_option maxRecDepth 100000 in
theorem cal_X5_yardFor : mt_cal yX5_yardFor cX5_yardFor 5 (some .int) 1 := ⟨lw_in 579 rfl rfl, lw_in 111 (by decide +kernel) rfl, by decide +kernel, by decide⟩
theorem ins_X5_yardFor : mt_ins yX5_yardFor := ⟨lw_in 577 (by decide +kernel) rfl, lw_in 578 (by decide +kernel) rfl⟩
theorem fl_X5_184 : mt_fl RX5 184 TX3 0 := Or.inr (lw_inn 149 (by decide +kernel) rfl)
set_option maxRecDepth 100000 in
theorem cal_X5_kindFor : mt_cal yX5_kindFor cX5_kindFor 6 (some .int) 2 := ⟨lw_in 583 rfl rfl, lw_in 111 (by decide +kernel) rfl, by decide +kernel, by decide⟩
theorem ins_X5_kindFor : mt_ins yX5_kindFor := ⟨lw_in 581 (by decide +kernel) rfl, lw_in 582 (by decide +kernel) rfl⟩
theorem fl_X5_187 : mt_fl RX5 187 TX3 3 := Or.inr (lw_inn 158 (by decide +kernel) rfl)
theorem fl_X5_190 : mt_fl RX5 190 TX3 4 := Or.inr (lw_inn 163 (by decide +kernel) rfl)
set_option maxRecDepth 100000 in
theorem cal_X5_strike : mt_cal yX5_strike cX5_strike 5 (some .int) 2 := ⟨lw_in 587 rfl rfl, lw_in 111 (by decide +kernel) rfl, by decide +kernel, by decide⟩
theorem ins_X5_strike : mt_ins yX5_strike := ⟨lw_in 585 (by decide +kernel) rfl, lw_in 586 (by decide +kernel) rfl⟩
theorem fl_X5_40 : mt_fl RX5 40 TX5 6 := Or.inl (lw_in 305 (by decide +kernel) rfl)
theorem fl_X5_311 : mt_fl RX5 311 TX2 2 := Or.inr (lw_inn 244 (by decide +kernel) rfl)
theorem ml_X5_312 : mt_ml RX5 312 yX2_addOf := Or.inr (lw_inn 596 (by decide +kernel) rfl)
set_option maxRecDepth 100000 in
theorem cal_X5_foreseeStrains : mt_cal yX5_foreseeStrains cX5_foreseeStrains 4 none 1 := ⟨lw_in 595 rfl rfl, lw_in 111 (by decide +kernel) rfl, by decide +kernel, by decide⟩
theorem ins_X5_foreseeStrains : mt_ins yX5_foreseeStrains := ⟨lw_in 594 (by decide +kernel) rfl, lw_in 30 (by decide +kernel) rfl⟩
theorem ml_X5_193 : mt_ml RX5 193 yX5_foreseeStrains := Or.inl (lw_in 592 (by decide +kernel) rfl)
theorem ml_X5_196 : mt_ml RX5 196 yJ6_bitCount_0f7a4 := Or.inl (lw_in 606 (by decide +kernel) rfl)
theorem ml_X5_200 : mt_ml RX5 200 yX2_areEasedBy := Or.inr (lw_inn 607 (by decide +kernel) rfl)
set_option maxRecDepth 100000 in
theorem cal_X5_lull : mt_cal yX5_lull cX5_lull 6 (some .int) 1 := ⟨lw_in 591 rfl rfl, lw_in 111 (by decide +kernel) rfl, by decide +kernel, by decide⟩
theorem ins_X5_lull : mt_ins yX5_lull := ⟨lw_in 589 (by decide +kernel) rfl, lw_in 590 (by decide +kernel) rfl⟩
theorem fl_X5_44 : mt_fl RX5 44 TX5 7 := Or.inl (lw_in 306 (by decide +kernel) rfl)
theorem fl_X5_316 : mt_fl RX5 316 TX3 6 := Or.inr (lw_inn 169 (by decide +kernel) rfl)
theorem fl_X5_47 : mt_fl RX5 47 TX5 8 := Or.inl (lw_in 307 (by decide +kernel) rfl)
set_option maxRecDepth 100000 in
theorem cal_X5_foreseeGains : mt_cal yX5_foreseeGains cX5_foreseeGains 3 none 1 := ⟨lw_in 618 rfl rfl, lw_in 111 (by decide +kernel) rfl, by decide +kernel, by decide⟩
theorem ins_X5_foreseeGains : mt_ins yX5_foreseeGains := ⟨lw_in 617 (by decide +kernel) rfl, lw_in 34 (by decide +kernel) rfl⟩
set_option maxRecDepth 100000 in
theorem cal_X5_goldWithTorn : mt_cal yX5_goldWithTorn cX5_goldWithTorn 4 (some .int) 1 := ⟨lw_in 622 rfl rfl, lw_in 111 (by decide +kernel) rfl, by decide +kernel, by decide⟩
theorem ins_X5_goldWithTorn : mt_ins yX5_goldWithTorn := ⟨lw_in 621 (by decide +kernel) rfl, lw_in 35 (by decide +kernel) rfl⟩
theorem ml_X5_203 : mt_ml RX5 203 yX5_foreseeGains := Or.inl (lw_in 615 (by decide +kernel) rfl)
theorem ml_X5_206 : mt_ml RX5 206 yX5_goldWithTorn := Or.inl (lw_in 619 (by decide +kernel) rfl)
set_option maxRecDepth 100000 in
theorem cal_X5_tear : mt_cal yX5_tear cX5_tear 7 (some .int) 2 := ⟨lw_in 614 rfl rfl, lw_in 111 (by decide +kernel) rfl, by decide +kernel, by decide⟩
theorem ins_X5_tear : mt_ins yX5_tear := ⟨lw_in 612 (by decide +kernel) rfl, lw_in 613 (by decide +kernel) rfl⟩
set_option maxRecDepth 100000 in
theorem cal_X5_isSheet : mt_cal yX5_isSheet cX5_isSheet 2 (some .boolean) 1 := ⟨lw_in 638 rfl rfl, lw_in 111 (by decide +kernel) rfl, by decide +kernel, by decide⟩
theorem ins_X5_isSheet : mt_ins yX5_isSheet := ⟨lw_in 637 (by decide +kernel) rfl, lw_in 38 (by decide +kernel) rfl⟩
theorem ml_X5_255 : mt_ml RX5 255 yX5_isSheet := Or.inl (lw_in 635 (by decide +kernel) rfl)
theorem fl_X5_59 : mt_fl RX5 59 TX5 10 := Or.inl (lw_in 309 (by decide +kernel) rfl)
theorem ml_X5_262 : mt_ml RX5 262 yX1_isMissing := Or.inr (lw_inn 639 (by decide +kernel) rfl)
set_option maxRecDepth 100000 in
theorem cal_X5_faultOfSheet : mt_cal yX5_faultOfSheet cX5_faultOfSheet 2 (some .int) 1 := ⟨lw_in 634 rfl rfl, lw_in 111 (by decide +kernel) rfl, by decide +kernel, by decide⟩
theorem ins_X5_faultOfSheet : mt_ins yX5_faultOfSheet := ⟨lw_in 633 (by decide +kernel) rfl, lw_in 37 (by decide +kernel) rfl⟩
theorem ml_X5_284 : mt_ml RX5 284 yX5_faultOfSheet := Or.inl (lw_in 631 (by decide +kernel) rfl)
set_option maxRecDepth 100000 in
theorem cal_X5_faultOfSheetAndTreaty : mt_cal yX5_faultOfSheetAndTreaty cX5_faultOfSheetAndTreaty 4 (some .int) 2 := ⟨lw_in 630 rfl rfl, lw_in 111 (by decide +kernel) rfl, by decide +kernel, by decide⟩
theorem ins_X5_faultOfSheetAndTreaty : mt_ins yX5_faultOfSheetAndTreaty := ⟨lw_in 629 (by decide +kernel) rfl, lw_in 36 (by decide +kernel) rfl⟩
theorem ml_X5_305 : mt_ml RX5 305 yX3_fadesWithin := Or.inr (lw_inn 652 (by decide +kernel) rfl)
set_option maxRecDepth 100000 in
theorem cal_X5_figuresWeighing : mt_cal yX5_figuresWeighing cX5_figuresWeighing 5 (some .int) 2 := ⟨lw_in 651 rfl rfl, lw_in 111 (by decide +kernel) rfl, by decide +kernel, by decide⟩
theorem ins_X5_figuresWeighing : mt_ins yX5_figuresWeighing := ⟨lw_in 650 (by decide +kernel) rfl, lw_in 41 (by decide +kernel) rfl⟩
theorem ml_X5_308 : mt_ml RX5 308 yX1_allows := Or.inr (lw_inn 664 (by decide +kernel) rfl)
set_option maxRecDepth 100000 in
theorem cal_X5_followsSheet : mt_cal yX5_followsSheet cX5_followsSheet 5 (some .boolean) 3 := ⟨lw_in 663 rfl rfl, lw_in 111 (by decide +kernel) rfl, by decide +kernel, by decide⟩
theorem ins_X5_followsSheet : mt_ins yX5_followsSheet := ⟨lw_in 662 (by decide +kernel) rfl, lw_in 44 (by decide +kernel) rfl⟩
theorem ml_X5_222 : mt_ml RX5 222 yX5_followsSheet := Or.inl (lw_in 660 (by decide +kernel) rfl)
set_option maxRecDepth 100000 in
theorem cal_X5_fitsMark : mt_cal yX5_fitsMark cX5_fitsMark 5 (some .boolean) 4 := ⟨lw_in 659 rfl rfl, lw_in 111 (by decide +kernel) rfl, by decide +kernel, by decide⟩
theorem ins_X5_fitsMark : mt_ins yX5_fitsMark := ⟨lw_in 658 (by decide +kernel) rfl, lw_in 43 (by decide +kernel) rfl⟩
theorem ml_X5_209 : mt_ml RX5 209 yX5_faultOfSheetAndTreaty := Or.inl (lw_in 627 (by decide +kernel) rfl)
theorem ml_X5_212 : mt_ml RX5 212 yX1_lastTold := Or.inr (lw_inn 643 (by decide +kernel) rfl)
theorem ml_X5_215 : mt_ml RX5 215 yX5_figuresWeighing := Or.inl (lw_in 648 (by decide +kernel) rfl)
theorem ml_X5_218 : mt_ml RX5 218 yX5_fitsMark := Or.inl (lw_in 656 (by decide +kernel) rfl)
set_option maxRecDepth 100000 in
theorem cal_X5_fits : mt_cal yX5_fits cX5_fits 8 (some .int) 2 := ⟨lw_in 626 rfl rfl, lw_in 111 (by decide +kernel) rfl, by decide +kernel, by decide⟩
theorem ins_X5_fits : mt_ins yX5_fits := ⟨lw_in 624 (by decide +kernel) rfl, lw_in 625 (by decide +kernel) rfl⟩
set_option maxRecDepth 100000 in
theorem cal_X5_kinds : mt_cal yX5_kinds cX5_kinds 7 (some .int) 2 := ⟨lw_in 672 rfl rfl, lw_in 111 (by decide +kernel) rfl, by decide +kernel, by decide⟩
theorem ins_X5_kinds : mt_ins yX5_kinds := ⟨lw_in 670 (by decide +kernel) rfl, lw_in 671 (by decide +kernel) rfl⟩
theorem ml_X5_226 : mt_ml RX5 226 yX4_draw := Or.inr (lw_inn 677 (by decide +kernel) rfl)
set_option maxRecDepth 100000 in
theorem cal_X5_wakings : mt_cal yX5_wakings cX5_wakings 3 (some .int) 1 := ⟨lw_in 676 rfl rfl, lw_in 111 (by decide +kernel) rfl, by decide +kernel, by decide⟩
theorem ins_X5_wakings : mt_ins yX5_wakings := ⟨lw_in 674 (by decide +kernel) rfl, lw_in 675 (by decide +kernel) rfl⟩
set_option maxRecDepth 100000 in
theorem cal_X5_sharedDivisor : mt_cal yX5_sharedDivisor cX5_sharedDivisor 3 (some .int) 2 := ⟨lw_in 688 rfl rfl, lw_in 111 (by decide +kernel) rfl, by decide +kernel, by decide⟩
theorem sta_X5_sharedDivisor : Cond.static yX5_sharedDivisor ∈ lw_g := lw_in 687 (by decide +kernel) rfl
set_option maxRecDepth 100000 in
theorem cal_X5_power : mt_cal yX5_power cX5_power 5 (some .long) 2 := ⟨lw_in 691 rfl rfl, lw_in 111 (by decide +kernel) rfl, by decide +kernel, by decide⟩
theorem sta_X5_power : Cond.static yX5_power ∈ lw_g := lw_in 690 (by decide +kernel) rfl
theorem ml_X5_229 : mt_ml RX5 229 yX5_sharedDivisor := Or.inl (lw_in 686 (by decide +kernel) rfl)
theorem ml_X5_232 : mt_ml RX5 232 yX5_power := Or.inl (lw_in 689 (by decide +kernel) rfl)
set_option maxRecDepth 100000 in
theorem cal_X5_odds : mt_cal yX5_odds cX5_odds 6 (some .long) 3 := ⟨lw_in 685 rfl rfl, lw_in 111 (by decide +kernel) rfl, by decide +kernel, by decide⟩
theorem ins_X5_odds : mt_ins yX5_odds := ⟨lw_in 683 (by decide +kernel) rfl, lw_in 684 (by decide +kernel) rfl⟩
theorem fl_X5_235 : mt_fl RX5 235 TX4 5 := Or.inr (lw_inn 205 (by decide +kernel) rfl)
set_option maxRecDepth 100000 in
theorem cal_X5_seed : mt_cal yX5_seed cX5_seed 3 (some .int) 1 := ⟨lw_in 695 rfl rfl, lw_in 111 (by decide +kernel) rfl, by decide +kernel, by decide⟩
theorem ins_X5_seed : mt_ins yX5_seed := ⟨lw_in 693 (by decide +kernel) rfl, lw_in 694 (by decide +kernel) rfl⟩
theorem fl_X5_53 : mt_fl RX5 53 TX5 9 := Or.inl (lw_in 308 (by decide +kernel) rfl)
theorem fl_X5_238 : mt_fl RX5 238 TX0 1 := Or.inr (lw_inn 260 (by decide +kernel) rfl)
theorem ml_X5_241 : mt_ml RX5 241 yX0_take := Or.inr (lw_inn 700 (by decide +kernel) rfl)
set_option maxRecDepth 100000 in
theorem cal_X5_feed : mt_cal yX5_feed cX5_feed 4 (some .int) 2 := ⟨lw_in 699 rfl rfl, lw_in 111 (by decide +kernel) rfl, by decide +kernel, by decide⟩
theorem ins_X5_feed : mt_ins yX5_feed := ⟨lw_in 697 (by decide +kernel) rfl, lw_in 698 (by decide +kernel) rfl⟩
set_option maxRecDepth 100000 in
theorem cal_X5_wipe : mt_cal yX5_wipe cX5_wipe 2 (some .int) 0 := ⟨lw_in 707 rfl rfl, lw_in 111 (by decide +kernel) rfl, by decide +kernel, by decide⟩
theorem ins_X5_wipe : mt_ins yX5_wipe := ⟨lw_in 705 (by decide +kernel) rfl, lw_in 706 (by decide +kernel) rfl⟩
theorem ml_X5_245 : mt_ml RX5 245 yX0_readInto := Or.inr (lw_inn 712 (by decide +kernel) rfl)
set_option maxRecDepth 100000 in
theorem cal_X5_text : mt_cal yX5_text cX5_text 2 (some .int) 0 := ⟨lw_in 711 rfl rfl, lw_in 111 (by decide +kernel) rfl, by decide +kernel, by decide⟩
theorem ins_X5_text : mt_ins yX5_text := ⟨lw_in 709 (by decide +kernel) rfl, lw_in 710 (by decide +kernel) rfl⟩
theorem fl_X5_249 : mt_fl RX5 249 TX4 8 := Or.inr (lw_inn 213 (by decide +kernel) rfl)
set_option maxRecDepth 100000 in
theorem cal_X5_hold : mt_cal yX5_hold cX5_hold 3 (some .int) 2 := ⟨lw_in 828 rfl rfl, lw_in 111 (by decide +kernel) rfl, by decide +kernel, by decide⟩
theorem ins_X5_hold : mt_ins yX5_hold := ⟨lw_in 826 (by decide +kernel) rfl, lw_in 827 (by decide +kernel) rfl⟩
theorem ml_X5_252 : mt_ml RX5 252 yX3_isA := Or.inr (lw_inn 833 (by decide +kernel) rfl)
set_option maxRecDepth 100000 in
theorem cal_X5_as : mt_cal yX5_as cX5_as 4 (some .int) 2 := ⟨lw_in 832 rfl rfl, lw_in 111 (by decide +kernel) rfl, by decide +kernel, by decide⟩
theorem ins_X5_as : mt_ins yX5_as := ⟨lw_in 830 (by decide +kernel) rfl, lw_in 831 (by decide +kernel) rfl⟩
theorem ml_X5_258 : mt_ml RX5 258 yX1_begin := Or.inr (lw_inn 843 (by decide +kernel) rfl)
theorem fl_X5_261 : mt_fl RX5 261 TX1 1 := Or.inr (lw_inn 289 (by decide +kernel) rfl)
set_option maxRecDepth 100000 in
theorem cal_X5_sheet : mt_cal yX5_sheet cX5_sheet 4 (some .int) 3 := ⟨lw_in 842 rfl rfl, lw_in 111 (by decide +kernel) rfl, by decide +kernel, by decide⟩
theorem ins_X5_sheet : mt_ins yX5_sheet := ⟨lw_in 840 (by decide +kernel) rfl, lw_in 841 (by decide +kernel) rfl⟩
theorem ml_X5_266 : mt_ml RX5 266 yX1_put := Or.inr (lw_inn 851 (by decide +kernel) rfl)
set_option maxRecDepth 100000 in
theorem cal_X5_write : mt_cal yX5_write cX5_write 4 (some .int) 3 := ⟨lw_in 850 rfl rfl, lw_in 111 (by decide +kernel) rfl, by decide +kernel, by decide⟩
theorem ins_X5_write : mt_ins yX5_write := ⟨lw_in 848 (by decide +kernel) rfl, lw_in 849 (by decide +kernel) rfl⟩
theorem fl_X5_269 : mt_fl RX5 269 TX1 0 := Or.inr (lw_inn 287 (by decide +kernel) rfl)
theorem ml_X5_272 : mt_ml RX5 272 yX1_hasRange := Or.inr (lw_inn 859 (by decide +kernel) rfl)
theorem fl_X5_275 : mt_fl RX5 275 TX1 2 := Or.inr (lw_inn 291 (by decide +kernel) rfl)
theorem ml_X5_278 : Cond.methodLink RX5 278 arraycopyName ∈ lw_g := lw_in 863 (by decide +kernel) rfl
set_option maxRecDepth 100000 in
theorem cal_X5_copy : mt_cal yX5_copy cX5_copy 8 (some .int) 5 := ⟨lw_in 858 rfl rfl, lw_in 111 (by decide +kernel) rfl, by decide +kernel, by decide⟩
theorem ins_X5_copy : mt_ins yX5_copy := ⟨lw_in 856 (by decide +kernel) rfl, lw_in 857 (by decide +kernel) rfl⟩
set_option maxRecDepth 100000 in
theorem cal_X5_load : mt_cal yX5_load cX5_load 5 (some .int) 1 := ⟨lw_in 867 rfl rfl, lw_in 111 (by decide +kernel) rfl, by decide +kernel, by decide⟩
theorem ins_X5_load : mt_ins yX5_load := ⟨lw_in 865 (by decide +kernel) rfl, lw_in 866 (by decide +kernel) rfl⟩
set_option maxRecDepth 100000 in
theorem cal_X5_judge : mt_cal yX5_judge cX5_judge 4 (some .int) 1 := ⟨lw_in 871 rfl rfl, lw_in 111 (by decide +kernel) rfl, by decide +kernel, by decide⟩
theorem ins_X5_judge : mt_ins yX5_judge := ⟨lw_in 869 (by decide +kernel) rfl, lw_in 870 (by decide +kernel) rfl⟩
theorem fl_X5_16 : mt_fl RX5 16 TX5 1 := Or.inl (lw_in 300 (by decide +kernel) rfl)
theorem fl_X5_19 : mt_fl RX5 19 TX5 2 := Or.inl (lw_in 301 (by decide +kernel) rfl)
set_option maxRecDepth 100000 in
theorem cal_X5_image : mt_cal yX5_image cX5_image 1 (some .int) 0 := ⟨lw_in 875 rfl rfl, lw_in 111 (by decide +kernel) rfl, by decide +kernel, by decide⟩
theorem ins_X5_image : mt_ins yX5_image := ⟨lw_in 873 (by decide +kernel) rfl, lw_in 874 (by decide +kernel) rfl⟩
set_option maxRecDepth 100000 in
theorem cal_X5_undo : mt_cal yX5_undo cX5_undo 1 (some .int) 0 := ⟨lw_in 879 rfl rfl, lw_in 111 (by decide +kernel) rfl, by decide +kernel, by decide⟩
theorem ins_X5_undo : mt_ins yX5_undo := ⟨lw_in 877 (by decide +kernel) rfl, lw_in 878 (by decide +kernel) rfl⟩
set_option maxRecDepth 100000 in
theorem cal_X5_forget : mt_cal yX5_forget cX5_forget 2 (some .int) 0 := ⟨lw_in 883 rfl rfl, lw_in 111 (by decide +kernel) rfl, by decide +kernel, by decide⟩
theorem ins_X5_forget : mt_ins yX5_forget := ⟨lw_in 881 (by decide +kernel) rfl, lw_in 882 (by decide +kernel) rfl⟩
theorem ml_X5_292 : mt_ml RX5 292 yX4_spotsHolding := Or.inr (lw_inn 888 (by decide +kernel) rfl)
set_option maxRecDepth 100000 in
theorem cal_X5_count : mt_cal yX5_count cX5_count 2 (some .int) 1 := ⟨lw_in 887 rfl rfl, lw_in 111 (by decide +kernel) rfl, by decide +kernel, by decide⟩
theorem ins_X5_count : mt_ins yX5_count := ⟨lw_in 885 (by decide +kernel) rfl, lw_in 886 (by decide +kernel) rfl⟩
set_option maxRecDepth 100000 in
theorem cal_X5_status : mt_cal yX5_status cX5_status 4 (some .int) 1 := ⟨lw_in 895 rfl rfl, lw_in 111 (by decide +kernel) rfl, by decide +kernel, by decide⟩
theorem ins_X5_status : mt_ins yX5_status := ⟨lw_in 893 (by decide +kernel) rfl, lw_in 894 (by decide +kernel) rfl⟩
theorem fl_X6_19 : mt_fl RX6 19 TX6 4 := Or.inl (lw_in 915 (by decide +kernel) rfl)
theorem kc_X6_60 : Cond.constant RX6 60 (-1000001) ∈ lw_g := lw_in 989 (by decide +kernel) rfl
set_option maxRecDepth 100000 in
theorem cal_X6_finding : mt_cal yX6_finding cX6_finding 2 (some .int) 1 := ⟨lw_in 993 rfl rfl, lw_in 117 (by decide +kernel) rfl, by decide +kernel, by decide⟩
theorem ins_X6_finding : mt_ins yX6_finding := ⟨lw_in 992 (by decide +kernel) rfl, lw_in 65 (by decide +kernel) rfl⟩
set_option maxRecDepth 100000 in
theorem cal_X6_within : mt_cal yX6_within cX6_within 3 (some .boolean) 3 := ⟨lw_in 981 rfl rfl, lw_in 117 (by decide +kernel) rfl, by decide +kernel, by decide⟩
theorem sta_X6_within : Cond.static yX6_within ∈ lw_g := lw_in 980 (by decide +kernel) rfl
theorem fl_X6_9 : mt_fl RX6 9 TX6 0 := Or.inl (lw_in 911 (by decide +kernel) rfl)
set_option maxRecDepth 100000 in
theorem cal_X6_become : mt_cal yX6_become cX6_become 4 (some .int) 2 := ⟨lw_in 988 rfl rfl, lw_in 117 (by decide +kernel) rfl, by decide +kernel, by decide⟩
theorem ins_X6_become : mt_ins yX6_become := ⟨lw_in 987 (by decide +kernel) rfl, lw_in 64 (by decide +kernel) rfl⟩
set_option maxRecDepth 100000 in
theorem cal_X6_copyRow : mt_cal yX6_copyRow cX6_copyRow 3 none 2 := ⟨lw_in 1151 rfl rfl, lw_in 117 (by decide +kernel) rfl, by decide +kernel, by decide⟩
theorem sta_X6_copyRow : Cond.static yX6_copyRow ∈ lw_g := lw_in 1150 (by decide +kernel) rfl
theorem fl_X6_16 : mt_fl RX6 16 TX6 2 := Or.inl (lw_in 913 (by decide +kernel) rfl)
theorem ml_X6_61 : mt_ml RX6 61 yX6_copyRow := Or.inl (lw_in 1149 (by decide +kernel) rfl)
set_option maxRecDepth 100000 in
theorem cal_X6_putBack : mt_cal yX6_putBack cX6_putBack 2 (some .int) 1 := ⟨lw_in 1155 rfl rfl, lw_in 117 (by decide +kernel) rfl, by decide +kernel, by decide⟩
theorem ins_X6_putBack : mt_ins yX6_putBack := ⟨lw_in 1154 (by decide +kernel) rfl, lw_in 90 (by decide +kernel) rfl⟩
theorem kc_X6_65 : Cond.constant RX6 65 (-1000004) ∈ lw_g := lw_in 1176 (by decide +kernel) rfl
theorem ml_X6_66 : mt_ml RX6 66 yX6_finding := Or.inl (lw_in 990 (by decide +kernel) rfl)
set_option maxRecDepth 100000 in
theorem cal_X6_orNone : mt_cal yX6_orNone cX6_orNone 2 (some .int) 1 := ⟨lw_in 1175 rfl rfl, lw_in 117 (by decide +kernel) rfl, by decide +kernel, by decide⟩
theorem ins_X6_orNone : mt_ins yX6_orNone := ⟨lw_in 1174 (by decide +kernel) rfl, lw_in 93 (by decide +kernel) rfl⟩
set_option maxRecDepth 100000 in
theorem cal_X6_bits : mt_cal yX6_bits cX6_bits 3 (some .int) 1 := ⟨lw_in 1057 rfl rfl, lw_in 117 (by decide +kernel) rfl, by decide +kernel, by decide⟩
theorem sta_X6_bits : Cond.static yX6_bits ∈ lw_g := lw_in 1056 (by decide +kernel) rfl
theorem ml_X6_70 : mt_ml RX6 70 yX6_within := Or.inl (lw_in 979 (by decide +kernel) rfl)
set_option maxRecDepth 100000 in
theorem cal_X6_isFigures : mt_cal yX6_isFigures cX6_isFigures 1 (some .boolean) 1 := ⟨lw_in 984 rfl rfl, lw_in 117 (by decide +kernel) rfl, by decide +kernel, by decide⟩
theorem sta_X6_isFigures : Cond.static yX6_isFigures ∈ lw_g := lw_in 983 (by decide +kernel) rfl
set_option maxRecDepth 100000 in
theorem cal_X6_isPower : mt_cal yX6_isPower cX6_isPower 1 (some .boolean) 1 := ⟨lw_in 1018 rfl rfl, lw_in 117 (by decide +kernel) rfl, by decide +kernel, by decide⟩
theorem sta_X6_isPower : Cond.static yX6_isPower ∈ lw_g := lw_in 1017 (by decide +kernel) rfl
theorem ml_X6_74 : mt_ml RX6 74 yX6_isFigures := Or.inl (lw_in 982 (by decide +kernel) rfl)
theorem ml_X6_78 : mt_ml RX6 78 yX6_become := Or.inl (lw_in 985 (by decide +kernel) rfl)
set_option maxRecDepth 100000 in
theorem cal_X6_set : mt_cal yX6_set cX6_set 3 (some .int) 2 := ⟨lw_in 978 rfl rfl, lw_in 117 (by decide +kernel) rfl, by decide +kernel, by decide⟩
theorem ins_X6_set : mt_ins yX6_set := ⟨lw_in 976 (by decide +kernel) rfl, lw_in 977 (by decide +kernel) rfl⟩
set_option maxRecDepth 100000 in
theorem cal_X6_seen : mt_cal yX6_seen cX6_seen 2 (some .int) 1 := ⟨lw_in 997 rfl rfl, lw_in 117 (by decide +kernel) rfl, by decide +kernel, by decide⟩
theorem ins_X6_seen : mt_ins yX6_seen := ⟨lw_in 995 (by decide +kernel) rfl, lw_in 996 (by decide +kernel) rfl⟩
set_option maxRecDepth 100000 in
theorem cal_X6_isPlace : mt_cal yX6_isPlace cX6_isPlace 1 (some .boolean) 1 := ⟨lw_in 1004 rfl rfl, lw_in 117 (by decide +kernel) rfl, by decide +kernel, by decide⟩
theorem sta_X6_isPlace : Cond.static yX6_isPlace ∈ lw_g := lw_in 1003 (by decide +kernel) rfl
theorem ml_X6_82 : mt_ml RX6 82 yX6_isPlace := Or.inl (lw_in 1002 (by decide +kernel) rfl)
set_option maxRecDepth 100000 in
theorem cal_X6_event : mt_cal yX6_event cX6_event 3 (some .int) 2 := ⟨lw_in 1001 rfl rfl, lw_in 117 (by decide +kernel) rfl, by decide +kernel, by decide⟩
theorem ins_X6_event : mt_ins yX6_event := ⟨lw_in 999 (by decide +kernel) rfl, lw_in 1000 (by decide +kernel) rfl⟩
set_option maxRecDepth 100000 in
theorem cal_X6_listed : mt_cal yX6_listed cX6_listed 2 (some .int) 1 := ⟨lw_in 1008 rfl rfl, lw_in 117 (by decide +kernel) rfl, by decide +kernel, by decide⟩
theorem ins_X6_listed : mt_ins yX6_listed := ⟨lw_in 1006 (by decide +kernel) rfl, lw_in 1007 (by decide +kernel) rfl⟩
set_option maxRecDepth 100000 in
theorem cal_X6_treatyAt : mt_cal yX6_treatyAt cX6_treatyAt 2 (some .int) 2 := ⟨lw_in 1026 rfl rfl, lw_in 117 (by decide +kernel) rfl, by decide +kernel, by decide⟩
theorem sta_X6_treatyAt : Cond.static yX6_treatyAt ∈ lw_g := lw_in 1025 (by decide +kernel) rfl
theorem ml_X6_85 : mt_ml RX6 85 yX6_treatyAt := Or.inl (lw_in 1024 (by decide +kernel) rfl)
set_option maxRecDepth 100000 in
theorem cal_X6_treatyIs : mt_cal yX6_treatyIs cX6_treatyIs 3 (some .int) 2 := ⟨lw_in 1046 rfl rfl, lw_in 117 (by decide +kernel) rfl, by decide +kernel, by decide⟩
theorem ins_X6_treatyIs : mt_ins yX6_treatyIs := ⟨lw_in 1045 (by decide +kernel) rfl, lw_in 70 (by decide +kernel) rfl⟩
set_option maxRecDepth 100000 in
theorem cal_X6_isTreaty : mt_cal yX6_isTreaty cX6_isTreaty 2 (some .boolean) 1 := ⟨lw_in 1034 rfl rfl, lw_in 117 (by decide +kernel) rfl, by decide +kernel, by decide⟩
theorem ins_X6_isTreaty : mt_ins yX6_isTreaty := ⟨lw_in 1033 (by decide +kernel) rfl, lw_in 67 (by decide +kernel) rfl⟩
set_option maxRecDepth 100000 in
theorem cal_X6_isKind : mt_cal yX6_isKind cX6_isKind 1 (some .boolean) 1 := ⟨lw_in 1015 rfl rfl, lw_in 117 (by decide +kernel) rfl, by decide +kernel, by decide⟩
theorem sta_X6_isKind : Cond.static yX6_isKind ∈ lw_g := lw_in 1014 (by decide +kernel) rfl
set_option maxRecDepth 100000 in
theorem cal_X6_comes : mt_cal yX6_comes cX6_comes 6 (some .int) 3 := ⟨lw_in 1023 rfl rfl, lw_in 117 (by decide +kernel) rfl, by decide +kernel, by decide⟩
theorem ins_X6_comes : mt_ins yX6_comes := ⟨lw_in 1022 (by decide +kernel) rfl, lw_in 66 (by decide +kernel) rfl⟩
theorem ml_X6_88 : mt_ml RX6 88 yX6_isKind := Or.inl (lw_in 1013 (by decide +kernel) rfl)
theorem ml_X6_91 : mt_ml RX6 91 yX6_isPower := Or.inl (lw_in 1016 (by decide +kernel) rfl)
theorem kc_X6_94 : Cond.constant RX6 94 (-1000002) ∈ lw_g := lw_in 1019 (by decide +kernel) rfl
theorem ml_X6_95 : mt_ml RX6 95 yX6_comes := Or.inl (lw_in 1020 (by decide +kernel) rfl)
set_option maxRecDepth 100000 in
theorem cal_X6_treaty : mt_cal yX6_treaty cX6_treaty 4 (some .int) 3 := ⟨lw_in 1012 rfl rfl, lw_in 117 (by decide +kernel) rfl, by decide +kernel, by decide⟩
theorem ins_X6_treaty : mt_ins yX6_treaty := ⟨lw_in 1010 (by decide +kernel) rfl, lw_in 1011 (by decide +kernel) rfl⟩
theorem ml_X6_99 : mt_ml RX6 99 yX6_treatyIs := Or.inl (lw_in 1043 (by decide +kernel) rfl)
set_option maxRecDepth 100000 in
theorem cal_X6_bears : mt_cal yX6_bears cX6_bears 3 (some .int) 1 := ⟨lw_in 1042 rfl rfl, lw_in 117 (by decide +kernel) rfl, by decide +kernel, by decide⟩
theorem ins_X6_bears : mt_ins yX6_bears := ⟨lw_in 1041 (by decide +kernel) rfl, lw_in 69 (by decide +kernel) rfl⟩
set_option maxRecDepth 100000 in
theorem cal_X6_fades : mt_cal yX6_fades cX6_fades 2 (some .int) 1 := ⟨lw_in 1050 rfl rfl, lw_in 117 (by decide +kernel) rfl, by decide +kernel, by decide⟩
theorem ins_X6_fades : mt_ins yX6_fades := ⟨lw_in 1049 (by decide +kernel) rfl, lw_in 71 (by decide +kernel) rfl⟩
theorem ml_X6_102 : mt_ml RX6 102 yX6_bits := Or.inl (lw_in 1055 (by decide +kernel) rfl)
set_option maxRecDepth 100000 in
theorem cal_X6_yields : mt_cal yX6_yields cX6_yields 3 (some .int) 1 := ⟨lw_in 1054 rfl rfl, lw_in 117 (by decide +kernel) rfl, by decide +kernel, by decide⟩
theorem ins_X6_yields : mt_ins yX6_yields := ⟨lw_in 1053 (by decide +kernel) rfl, lw_in 72 (by decide +kernel) rfl⟩
set_option maxRecDepth 100000 in
theorem cal_X6_renews : mt_cal yX6_renews cX6_renews 2 (some .int) 1 := ⟨lw_in 1061 rfl rfl, lw_in 117 (by decide +kernel) rfl, by decide +kernel, by decide⟩
theorem ins_X6_renews : mt_ins yX6_renews := ⟨lw_in 1060 (by decide +kernel) rfl, lw_in 73 (by decide +kernel) rfl⟩
set_option maxRecDepth 100000 in
theorem cal_X6_upIn : mt_cal yX6_upIn cX6_upIn 2 (some .int) 1 := ⟨lw_in 1065 rfl rfl, lw_in 117 (by decide +kernel) rfl, by decide +kernel, by decide⟩
theorem ins_X6_upIn : mt_ins yX6_upIn := ⟨lw_in 1064 (by decide +kernel) rfl, lw_in 74 (by decide +kernel) rfl⟩
theorem ml_X6_105 : mt_ml RX6 105 yX6_bears := Or.inl (lw_in 1039 (by decide +kernel) rfl)
theorem ml_X6_108 : mt_ml RX6 108 yX6_fades := Or.inl (lw_in 1047 (by decide +kernel) rfl)
theorem ml_X6_111 : mt_ml RX6 111 yX6_yields := Or.inl (lw_in 1051 (by decide +kernel) rfl)
theorem ml_X6_114 : mt_ml RX6 114 yX6_renews := Or.inl (lw_in 1058 (by decide +kernel) rfl)
theorem ml_X6_117 : mt_ml RX6 117 yX6_upIn := Or.inl (lw_in 1062 (by decide +kernel) rfl)
set_option maxRecDepth 100000 in
theorem cal_X6_told : mt_cal yX6_told cX6_told 3 (some .int) 2 := ⟨lw_in 1038 rfl rfl, lw_in 117 (by decide +kernel) rfl, by decide +kernel, by decide⟩
theorem ins_X6_told : mt_ins yX6_told := ⟨lw_in 1037 (by decide +kernel) rfl, lw_in 68 (by decide +kernel) rfl⟩
theorem ml_X6_120 : mt_ml RX6 120 yX6_isTreaty := Or.inl (lw_in 1031 (by decide +kernel) rfl)
theorem ml_X6_123 : mt_ml RX6 123 yX6_told := Or.inl (lw_in 1035 (by decide +kernel) rfl)
set_option maxRecDepth 100000 in
theorem cal_X6_of : mt_cal yX6_of cX6_of 3 (some .int) 2 := ⟨lw_in 1030 rfl rfl, lw_in 117 (by decide +kernel) rfl, by decide +kernel, by decide⟩
theorem ins_X6_of : mt_ins yX6_of := ⟨lw_in 1028 (by decide +kernel) rfl, lw_in 1029 (by decide +kernel) rfl⟩
set_option maxRecDepth 100000 in
theorem cal_X6_isField : mt_cal yX6_isField cX6_isField 4 (some .boolean) 3 := ⟨lw_in 1073 rfl rfl, lw_in 117 (by decide +kernel) rfl, by decide +kernel, by decide⟩
theorem ins_X6_isField : mt_ins yX6_isField := ⟨lw_in 1072 (by decide +kernel) rfl, lw_in 75 (by decide +kernel) rfl⟩
theorem ml_X6_126 : mt_ml RX6 126 yX6_isField := Or.inl (lw_in 1070 (by decide +kernel) rfl)
set_option maxRecDepth 100000 in
theorem cal_X6_change : mt_cal yX6_change cX6_change 4 (some .int) 3 := ⟨lw_in 1069 rfl rfl, lw_in 117 (by decide +kernel) rfl, by decide +kernel, by decide⟩
theorem ins_X6_change : mt_ins yX6_change := ⟨lw_in 1067 (by decide +kernel) rfl, lw_in 1068 (by decide +kernel) rfl⟩
set_option maxRecDepth 100000 in
theorem cal_X6_areBetween : mt_cal yX6_areBetween cX6_areBetween 6 (some .boolean) 3 := ⟨lw_in 1085 rfl rfl, lw_in 117 (by decide +kernel) rfl, by decide +kernel, by decide⟩
theorem ins_X6_areBetween : mt_ins yX6_areBetween := ⟨lw_in 1084 (by decide +kernel) rfl, lw_in 77 (by decide +kernel) rfl⟩
theorem ml_X6_129 : mt_ml RX6 129 yX6_areBetween := Or.inl (lw_in 1082 (by decide +kernel) rfl)
set_option maxRecDepth 100000 in
theorem cal_X6_isWar : mt_cal yX6_isWar cX6_isWar 5 (some .boolean) 2 := ⟨lw_in 1081 rfl rfl, lw_in 117 (by decide +kernel) rfl, by decide +kernel, by decide⟩
theorem ins_X6_isWar : mt_ins yX6_isWar := ⟨lw_in 1080 (by decide +kernel) rfl, lw_in 76 (by decide +kernel) rfl⟩
theorem ml_X6_132 : mt_ml RX6 132 yX6_isWar := Or.inl (lw_in 1078 (by decide +kernel) rfl)
set_option maxRecDepth 100000 in
theorem cal_X6_wars : mt_cal yX6_wars cX6_wars 4 (some .int) 1 := ⟨lw_in 1077 rfl rfl, lw_in 117 (by decide +kernel) rfl, by decide +kernel, by decide⟩
theorem ins_X6_wars : mt_ins yX6_wars := ⟨lw_in 1075 (by decide +kernel) rfl, lw_in 1076 (by decide +kernel) rfl⟩
set_option maxRecDepth 100000 in
theorem cal_X6_pairsAtWar : mt_cal yX6_pairsAtWar cX6_pairsAtWar 4 (some .int) 0 := ⟨lw_in 1132 rfl rfl, lw_in 117 (by decide +kernel) rfl, by decide +kernel, by decide⟩
theorem ins_X6_pairsAtWar : mt_ins yX6_pairsAtWar := ⟨lw_in 1131 (by decide +kernel) rfl, lw_in 86 (by decide +kernel) rfl⟩
theorem mm_X6_136 : Cond.methodLink RX6 136 Lib.Math.min.name ∈ lw_g := lw_in 1108 (by decide +kernel) rfl
set_option maxRecDepth 100000 in
theorem cal_X6_more : mt_cal yX6_more cX6_more 4 none 3 := ⟨lw_in 1107 rfl rfl, lw_in 117 (by decide +kernel) rfl, by decide +kernel, by decide⟩
theorem ins_X6_more : mt_ins yX6_more := ⟨lw_in 1106 (by decide +kernel) rfl, lw_in 81 (by decide +kernel) rfl⟩
set_option maxRecDepth 100000 in
theorem cal_X6_fadesNow : mt_cal yX6_fadesNow cX6_fadesNow 4 none 1 := ⟨lw_in 1112 rfl rfl, lw_in 117 (by decide +kernel) rfl, by decide +kernel, by decide⟩
theorem ins_X6_fadesNow : mt_ins yX6_fadesNow := ⟨lw_in 1111 (by decide +kernel) rfl, lw_in 82 (by decide +kernel) rfl⟩
theorem ml_X6_141 : mt_ml RX6 141 yX6_more := Or.inl (lw_in 1104 (by decide +kernel) rfl)
theorem fl_X6_145 : mt_fl RX6 145 TX6 5 := Or.inl (lw_in 916 (by decide +kernel) rfl)
theorem kc_X6_149 : Cond.constant RX6 149 (99999) ∈ lw_g := lw_in 1090 (by decide +kernel) rfl
theorem ml_X6_150 : mt_ml RX6 150 yX6_fadesNow := Or.inl (lw_in 1109 (by decide +kernel) rfl)
set_option maxRecDepth 100000 in
theorem cal_X6_holds : mt_cal yX6_holds cX6_holds 2 none 1 := ⟨lw_in 1103 rfl rfl, lw_in 117 (by decide +kernel) rfl, by decide +kernel, by decide⟩
theorem ins_X6_holds : mt_ins yX6_holds := ⟨lw_in 1102 (by decide +kernel) rfl, lw_in 80 (by decide +kernel) rfl⟩
set_option maxRecDepth 100000 in
theorem cal_X6_waits : mt_cal yX6_waits cX6_waits 2 none 1 := ⟨lw_in 1116 rfl rfl, lw_in 117 (by decide +kernel) rfl, by decide +kernel, by decide⟩
theorem ins_X6_waits : mt_ins yX6_waits := ⟨lw_in 1115 (by decide +kernel) rfl, lw_in 83 (by decide +kernel) rfl⟩
theorem ml_X6_154 : mt_ml RX6 154 yX6_holds := Or.inl (lw_in 1100 (by decide +kernel) rfl)
theorem ml_X6_157 : mt_ml RX6 157 yX6_waits := Or.inl (lw_in 1113 (by decide +kernel) rfl)
set_option maxRecDepth 100000 in
theorem cal_X6_year : mt_cal yX6_year cX6_year 3 none 0 := ⟨lw_in 1099 rfl rfl, lw_in 117 (by decide +kernel) rfl, by decide +kernel, by decide⟩
theorem ins_X6_year : mt_ins yX6_year := ⟨lw_in 1098 (by decide +kernel) rfl, lw_in 79 (by decide +kernel) rfl⟩
theorem ml_X6_160 : mt_ml RX6 160 yX6_year := Or.inl (lw_in 1096 (by decide +kernel) rfl)
set_option maxRecDepth 100000 in
theorem cal_X6_yearsGo : mt_cal yX6_yearsGo cX6_yearsGo 3 none 1 := ⟨lw_in 1095 rfl rfl, lw_in 117 (by decide +kernel) rfl, by decide +kernel, by decide⟩
theorem ins_X6_yearsGo : mt_ins yX6_yearsGo := ⟨lw_in 1094 (by decide +kernel) rfl, lw_in 78 (by decide +kernel) rfl⟩
set_option maxRecDepth 100000 in
theorem cal_X6_sumOf : mt_cal yX6_sumOf cX6_sumOf 4 (some .int) 1 := ⟨lw_in 1128 rfl rfl, lw_in 117 (by decide +kernel) rfl, by decide +kernel, by decide⟩
theorem ins_X6_sumOf : mt_ins yX6_sumOf := ⟨lw_in 1127 (by decide +kernel) rfl, lw_in 85 (by decide +kernel) rfl⟩
set_option maxRecDepth 100000 in
theorem cal_X6_inForce : mt_cal yX6_inForce cX6_inForce 3 (some .int) 0 := ⟨lw_in 1120 rfl rfl, lw_in 117 (by decide +kernel) rfl, by decide +kernel, by decide⟩
theorem ins_X6_inForce : mt_ins yX6_inForce := ⟨lw_in 1119 (by decide +kernel) rfl, lw_in 84 (by decide +kernel) rfl⟩
theorem kc_X6_163 : Cond.constant RX6 163 (-1000005) ∈ lw_g := lw_in 1091 (by decide +kernel) rfl
theorem ml_X6_164 : mt_ml RX6 164 yX6_yearsGo := Or.inl (lw_in 1092 (by decide +kernel) rfl)
theorem ml_X6_167 : mt_ml RX6 167 yX6_inForce := Or.inl (lw_in 1117 (by decide +kernel) rfl)
set_option maxRecDepth 100000 in
theorem cal_X6_go : mt_cal yX6_go cX6_go 2 (some .int) 1 := ⟨lw_in 1089 rfl rfl, lw_in 117 (by decide +kernel) rfl, by decide +kernel, by decide⟩
theorem ins_X6_go : mt_ins yX6_go := ⟨lw_in 1087 (by decide +kernel) rfl, lw_in 1088 (by decide +kernel) rfl⟩
set_option maxRecDepth 100000 in
theorem cal_X6_wouldBreak : mt_cal yX6_wouldBreak cX6_wouldBreak 3 (some .int) 0 := ⟨lw_in 1136 rfl rfl, lw_in 117 (by decide +kernel) rfl, by decide +kernel, by decide⟩
theorem ins_X6_wouldBreak : mt_ins yX6_wouldBreak := ⟨lw_in 1135 (by decide +kernel) rfl, lw_in 87 (by decide +kernel) rfl⟩
set_option maxRecDepth 100000 in
theorem cal_X6_marked : mt_cal yX6_marked cX6_marked 3 (some .int) 0 := ⟨lw_in 1140 rfl rfl, lw_in 117 (by decide +kernel) rfl, by decide +kernel, by decide⟩
theorem ins_X6_marked : mt_ins yX6_marked := ⟨lw_in 1139 (by decide +kernel) rfl, lw_in 88 (by decide +kernel) rfl⟩
set_option maxRecDepth 100000 in
theorem cal_X6_heldLongest : mt_cal yX6_heldLongest cX6_heldLongest 4 (some .int) 0 := ⟨lw_in 1144 rfl rfl, lw_in 117 (by decide +kernel) rfl, by decide +kernel, by decide⟩
theorem ins_X6_heldLongest : mt_ins yX6_heldLongest := ⟨lw_in 1143 (by decide +kernel) rfl, lw_in 89 (by decide +kernel) rfl⟩
theorem ml_X6_171 : mt_ml RX6 171 yX6_sumOf := Or.inl (lw_in 1125 (by decide +kernel) rfl)
theorem ml_X6_174 : mt_ml RX6 174 yX6_pairsAtWar := Or.inl (lw_in 1129 (by decide +kernel) rfl)
theorem ml_X6_177 : mt_ml RX6 177 yX6_wouldBreak := Or.inl (lw_in 1133 (by decide +kernel) rfl)
theorem ml_X6_180 : mt_ml RX6 180 yX6_marked := Or.inl (lw_in 1137 (by decide +kernel) rfl)
theorem ml_X6_183 : mt_ml RX6 183 yX6_heldLongest := Or.inl (lw_in 1141 (by decide +kernel) rfl)
set_option maxRecDepth 100000 in
theorem cal_X6_now : mt_cal yX6_now cX6_now 2 (some .int) 1 := ⟨lw_in 1124 rfl rfl, lw_in 117 (by decide +kernel) rfl, by decide +kernel, by decide⟩
theorem ins_X6_now : mt_ins yX6_now := ⟨lw_in 1122 (by decide +kernel) rfl, lw_in 1123 (by decide +kernel) rfl⟩
theorem ml_X6_186 : mt_ml RX6 186 yX6_putBack := Or.inl (lw_in 1152 (by decide +kernel) rfl)
set_option maxRecDepth 100000 in
theorem cal_X6_behind : mt_cal yX6_behind cX6_behind 3 (some .int) 2 := ⟨lw_in 1163 rfl rfl, lw_in 117 (by decide +kernel) rfl, by decide +kernel, by decide⟩
theorem ins_X6_behind : mt_ins yX6_behind := ⟨lw_in 1162 (by decide +kernel) rfl, lw_in 91 (by decide +kernel) rfl⟩
set_option maxRecDepth 100000 in
theorem cal_X6_ahead : mt_cal yX6_ahead cX6_ahead 5 (some .int) 3 := ⟨lw_in 1148 rfl rfl, lw_in 117 (by decide +kernel) rfl, by decide +kernel, by decide⟩
theorem ins_X6_ahead : mt_ins yX6_ahead := ⟨lw_in 1146 (by decide +kernel) rfl, lw_in 1147 (by decide +kernel) rfl⟩
theorem ml_X6_189 : mt_ml RX6 189 yX6_behind := Or.inl (lw_in 1160 (by decide +kernel) rfl)
set_option maxRecDepth 100000 in
theorem cal_X6_gold : mt_cal yX6_gold cX6_gold 2 (some .int) 1 := ⟨lw_in 1159 rfl rfl, lw_in 117 (by decide +kernel) rfl, by decide +kernel, by decide⟩
theorem ins_X6_gold : mt_ins yX6_gold := ⟨lw_in 1157 (by decide +kernel) rfl, lw_in 1158 (by decide +kernel) rfl⟩
set_option maxRecDepth 100000 in
theorem cal_X6_yearsTo : mt_cal yX6_yearsTo cX6_yearsTo 4 (some .int) 2 := ⟨lw_in 1171 rfl rfl, lw_in 117 (by decide +kernel) rfl, by decide +kernel, by decide⟩
theorem ins_X6_yearsTo : mt_ins yX6_yearsTo := ⟨lw_in 1170 (by decide +kernel) rfl, lw_in 92 (by decide +kernel) rfl⟩
theorem ml_X6_192 : mt_ml RX6 192 yX6_yearsTo := Or.inl (lw_in 1168 (by decide +kernel) rfl)
theorem ml_X6_195 : mt_ml RX6 195 yX6_orNone := Or.inl (lw_in 1172 (by decide +kernel) rfl)
set_option maxRecDepth 100000 in
theorem cal_X6_breaks : mt_cal yX6_breaks cX6_breaks 2 (some .int) 1 := ⟨lw_in 1167 rfl rfl, lw_in 117 (by decide +kernel) rfl, by decide +kernel, by decide⟩
theorem ins_X6_breaks : mt_ins yX6_breaks := ⟨lw_in 1165 (by decide +kernel) rfl, lw_in 1166 (by decide +kernel) rfl⟩
set_option maxRecDepth 100000 in
theorem cal_X6_war : mt_cal yX6_war cX6_war 4 (some .int) 2 := ⟨lw_in 1180 rfl rfl, lw_in 117 (by decide +kernel) rfl, by decide +kernel, by decide⟩
theorem ins_X6_war : mt_ins yX6_war := ⟨lw_in 1178 (by decide +kernel) rfl, lw_in 1179 (by decide +kernel) rfl⟩
set_option maxRecDepth 100000 in
theorem cal_X6_peace : mt_cal yX6_peace cX6_peace 2 (some .int) 0 := ⟨lw_in 1184 rfl rfl, lw_in 117 (by decide +kernel) rfl, by decide +kernel, by decide⟩
theorem ins_X6_peace : mt_ins yX6_peace := ⟨lw_in 1182 (by decide +kernel) rfl, lw_in 1183 (by decide +kernel) rfl⟩
set_option maxRecDepth 100000 in
theorem cal_X6_when : mt_cal yX6_when cX6_when 3 (some .int) 2 := ⟨lw_in 1188 rfl rfl, lw_in 117 (by decide +kernel) rfl, by decide +kernel, by decide⟩
theorem ins_X6_when : mt_ins yX6_when := ⟨lw_in 1186 (by decide +kernel) rfl, lw_in 1187 (by decide +kernel) rfl⟩
set_option maxRecDepth 100000 in
theorem cal_X6_isThought : mt_cal yX6_isThought cX6_isThought 1 (some .boolean) 1 := ⟨lw_in 1195 rfl rfl, lw_in 117 (by decide +kernel) rfl, by decide +kernel, by decide⟩
theorem sta_X6_isThought : Cond.static yX6_isThought ∈ lw_g := lw_in 1194 (by decide +kernel) rfl
theorem ml_X6_198 : mt_ml RX6 198 yX6_isThought := Or.inl (lw_in 1193 (by decide +kernel) rfl)
set_option maxRecDepth 100000 in
theorem cal_X6_yardFor : mt_cal yX6_yardFor cX6_yardFor 7 (some .int) 1 := ⟨lw_in 1192 rfl rfl, lw_in 117 (by decide +kernel) rfl, by decide +kernel, by decide⟩
theorem ins_X6_yardFor : mt_ins yX6_yardFor := ⟨lw_in 1190 (by decide +kernel) rfl, lw_in 1191 (by decide +kernel) rfl⟩
set_option maxRecDepth 100000 in
theorem cal_X6_kindFor : mt_cal yX6_kindFor cX6_kindFor 9 (some .int) 2 := ⟨lw_in 1199 rfl rfl, lw_in 117 (by decide +kernel) rfl, by decide +kernel, by decide⟩
theorem ins_X6_kindFor : mt_ins yX6_kindFor := ⟨lw_in 1197 (by decide +kernel) rfl, lw_in 1198 (by decide +kernel) rfl⟩
set_option maxRecDepth 100000 in
theorem cal_X6_strike : mt_cal yX6_strike cX6_strike 7 (some .int) 2 := ⟨lw_in 1203 rfl rfl, lw_in 117 (by decide +kernel) rfl, by decide +kernel, by decide⟩
theorem ins_X6_strike : mt_ins yX6_strike := ⟨lw_in 1201 (by decide +kernel) rfl, lw_in 1202 (by decide +kernel) rfl⟩
set_option maxRecDepth 100000 in
theorem cal_X6_isLulled : mt_cal yX6_isLulled cX6_isLulled 4 (some .boolean) 2 := ⟨lw_in 1211 rfl rfl, lw_in 117 (by decide +kernel) rfl, by decide +kernel, by decide⟩
theorem ins_X6_isLulled : mt_ins yX6_isLulled := ⟨lw_in 1210 (by decide +kernel) rfl, lw_in 94 (by decide +kernel) rfl⟩
theorem ml_X6_201 : mt_ml RX6 201 yX6_isLulled := Or.inl (lw_in 1208 (by decide +kernel) rfl)
set_option maxRecDepth 100000 in
theorem cal_X6_lull : mt_cal yX6_lull cX6_lull 4 (some .int) 1 := ⟨lw_in 1207 rfl rfl, lw_in 117 (by decide +kernel) rfl, by decide +kernel, by decide⟩
theorem ins_X6_lull : mt_ins yX6_lull := ⟨lw_in 1205 (by decide +kernel) rfl, lw_in 1206 (by decide +kernel) rfl⟩
set_option maxRecDepth 100000 in
theorem cal_X6_goldTorn : mt_cal yX6_goldTorn cX6_goldTorn 4 (some .int) 2 := ⟨lw_in 1219 rfl rfl, lw_in 117 (by decide +kernel) rfl, by decide +kernel, by decide⟩
theorem ins_X6_goldTorn : mt_ins yX6_goldTorn := ⟨lw_in 1218 (by decide +kernel) rfl, lw_in 95 (by decide +kernel) rfl⟩
theorem ml_X6_204 : mt_ml RX6 204 yX6_goldTorn := Or.inl (lw_in 1216 (by decide +kernel) rfl)
set_option maxRecDepth 100000 in
theorem cal_X6_tear : mt_cal yX6_tear cX6_tear 5 (some .int) 2 := ⟨lw_in 1215 rfl rfl, lw_in 117 (by decide +kernel) rfl, by decide +kernel, by decide⟩
theorem ins_X6_tear : mt_ins yX6_tear := ⟨lw_in 1213 (by decide +kernel) rfl, lw_in 1214 (by decide +kernel) rfl⟩
set_option maxRecDepth 100000 in
theorem cal_X6_isSheet : mt_cal yX6_isSheet cX6_isSheet 1 (some .boolean) 1 := ⟨lw_in 1230 rfl rfl, lw_in 117 (by decide +kernel) rfl, by decide +kernel, by decide⟩
theorem sta_X6_isSheet : Cond.static yX6_isSheet ∈ lw_g := lw_in 1229 (by decide +kernel) rfl
theorem ml_X6_207 : mt_ml RX6 207 yX6_isSheet := Or.inl (lw_in 1228 (by decide +kernel) rfl)
theorem fl_X6_48 : mt_fl RX6 48 TX6 17 := Or.inl (lw_in 928 (by decide +kernel) rfl)
theorem kc_X6_210 : Cond.constant RX6 210 (-1000006) ∈ lw_g := lw_in 1231 (by decide +kernel) rfl
set_option maxRecDepth 100000 in
theorem cal_X6_lacks : mt_cal yX6_lacks cX6_lacks 3 (some .int) 2 := ⟨lw_in 1227 rfl rfl, lw_in 117 (by decide +kernel) rfl, by decide +kernel, by decide⟩
theorem ins_X6_lacks : mt_ins yX6_lacks := ⟨lw_in 1226 (by decide +kernel) rfl, lw_in 96 (by decide +kernel) rfl⟩
theorem fl_X6_54 : mt_fl RX6 54 TX6 19 := Or.inl (lw_in 930 (by decide +kernel) rfl)
set_option maxRecDepth 100000 in
theorem cal_X6_isSo : mt_cal yX6_isSo cX6_isSo 7 (some .boolean) 3 := ⟨lw_in 1235 rfl rfl, lw_in 117 (by decide +kernel) rfl, by decide +kernel, by decide⟩
theorem ins_X6_isSo : mt_ins yX6_isSo := ⟨lw_in 1234 (by decide +kernel) rfl, lw_in 97 (by decide +kernel) rfl⟩
theorem ml_X6_211 : mt_ml RX6 211 yX6_lacks := Or.inl (lw_in 1224 (by decide +kernel) rfl)
theorem fl_X6_51 : mt_fl RX6 51 TX6 18 := Or.inl (lw_in 929 (by decide +kernel) rfl)
theorem ml_X6_215 : mt_ml RX6 215 yX6_isSo := Or.inl (lw_in 1232 (by decide +kernel) rfl)
set_option maxRecDepth 100000 in
theorem cal_X6_fits : mt_cal yX6_fits cX6_fits 8 (some .int) 2 := ⟨lw_in 1223 rfl rfl, lw_in 117 (by decide +kernel) rfl, by decide +kernel, by decide⟩
theorem ins_X6_fits : mt_ins yX6_fits := ⟨lw_in 1221 (by decide +kernel) rfl, lw_in 1222 (by decide +kernel) rfl⟩
set_option maxRecDepth 100000 in
theorem cal_X6_kinds : mt_cal yX6_kinds cX6_kinds 8 (some .int) 2 := ⟨lw_in 1239 rfl rfl, lw_in 117 (by decide +kernel) rfl, by decide +kernel, by decide⟩
theorem ins_X6_kinds : mt_ins yX6_kinds := ⟨lw_in 1237 (by decide +kernel) rfl, lw_in 1238 (by decide +kernel) rfl⟩
theorem kc_X6_218 : Cond.constant RX6 218 (1103515245) ∈ lw_g := lw_in 1248 (by decide +kernel) rfl
set_option maxRecDepth 100000 in
theorem cal_X6_drawn : mt_cal yX6_drawn cX6_drawn 1 (some .int) 0 := ⟨lw_in 1247 rfl rfl, lw_in 117 (by decide +kernel) rfl, by decide +kernel, by decide⟩
theorem ins_X6_drawn : mt_ins yX6_drawn := ⟨lw_in 1246 (by decide +kernel) rfl, lw_in 98 (by decide +kernel) rfl⟩
theorem ml_X6_219 : mt_ml RX6 219 yX6_drawn := Or.inl (lw_in 1244 (by decide +kernel) rfl)
set_option maxRecDepth 100000 in
theorem cal_X6_wakings : mt_cal yX6_wakings cX6_wakings 4 (some .int) 1 := ⟨lw_in 1243 rfl rfl, lw_in 117 (by decide +kernel) rfl, by decide +kernel, by decide⟩
theorem ins_X6_wakings : mt_ins yX6_wakings := ⟨lw_in 1241 (by decide +kernel) rfl, lw_in 1242 (by decide +kernel) rfl⟩
set_option maxRecDepth 100000 in
theorem cal_X6_odds : mt_cal yX6_odds cX6_odds 10 (some .long) 3 := ⟨lw_in 1252 rfl rfl, lw_in 117 (by decide +kernel) rfl, by decide +kernel, by decide⟩
theorem ins_X6_odds : mt_ins yX6_odds := ⟨lw_in 1250 (by decide +kernel) rfl, lw_in 1251 (by decide +kernel) rfl⟩
set_option maxRecDepth 100000 in
theorem cal_X6_seed : mt_cal yX6_seed cX6_seed 2 (some .int) 1 := ⟨lw_in 1256 rfl rfl, lw_in 117 (by decide +kernel) rfl, by decide +kernel, by decide⟩
theorem ins_X6_seed : mt_ins yX6_seed := ⟨lw_in 1254 (by decide +kernel) rfl, lw_in 1255 (by decide +kernel) rfl⟩
theorem fl_X6_222 : mt_fl RX6 222 TX6 7 := Or.inl (lw_in 918 (by decide +kernel) rfl)
theorem fl_X6_22 : mt_fl RX6 22 TX6 6 := Or.inl (lw_in 917 (by decide +kernel) rfl)
set_option maxRecDepth 100000 in
theorem cal_X6_feed : mt_cal yX6_feed cX6_feed 4 (some .int) 2 := ⟨lw_in 1260 rfl rfl, lw_in 117 (by decide +kernel) rfl, by decide +kernel, by decide⟩
theorem ins_X6_feed : mt_ins yX6_feed := ⟨lw_in 1258 (by decide +kernel) rfl, lw_in 1259 (by decide +kernel) rfl⟩
set_option maxRecDepth 100000 in
theorem cal_X6_wipe : mt_cal yX6_wipe cX6_wipe 2 (some .int) 0 := ⟨lw_in 1264 rfl rfl, lw_in 117 (by decide +kernel) rfl, by decide +kernel, by decide⟩
theorem ins_X6_wipe : mt_ins yX6_wipe := ⟨lw_in 1262 (by decide +kernel) rfl, lw_in 1263 (by decide +kernel) rfl⟩
set_option maxRecDepth 100000 in
theorem cal_X6_byteAt : mt_cal yX6_byteAt cX6_byteAt 2 (some .int) 1 := ⟨lw_in 1276 rfl rfl, lw_in 117 (by decide +kernel) rfl, by decide +kernel, by decide⟩
theorem ins_X6_byteAt : mt_ins yX6_byteAt := ⟨lw_in 1275 (by decide +kernel) rfl, lw_in 100 (by decide +kernel) rfl⟩
theorem fl_X6_225 : mt_fl RX6 225 TX6 9 := Or.inl (lw_in 920 (by decide +kernel) rfl)
theorem fl_X6_228 : mt_fl RX6 228 TX6 8 := Or.inl (lw_in 919 (by decide +kernel) rfl)
theorem ml_X6_231 : mt_ml RX6 231 yX6_byteAt := Or.inl (lw_in 1273 (by decide +kernel) rfl)
theorem fl_X6_234 : mt_fl RX6 234 TX6 11 := Or.inl (lw_in 922 (by decide +kernel) rfl)
theorem fl_X6_237 : mt_fl RX6 237 TX6 10 := Or.inl (lw_in 921 (by decide +kernel) rfl)
set_option maxRecDepth 100000 in
theorem cal_X6_token : mt_cal yX6_token cX6_token 2 none 0 := ⟨lw_in 1272 rfl rfl, lw_in 117 (by decide +kernel) rfl, by decide +kernel, by decide⟩
theorem ins_X6_token : mt_ins yX6_token := ⟨lw_in 1271 (by decide +kernel) rfl, lw_in 99 (by decide +kernel) rfl⟩
theorem ml_X6_240 : mt_ml RX6 240 yJ0_length_8abf5 := Or.inl (lw_in 1285 (by decide +kernel) rfl)
theorem ml_X6_243 : mt_ml RX6 243 yJ0_charAt_5068e := Or.inl (lw_in 1286 (by decide +kernel) rfl)
set_option maxRecDepth 100000 in
theorem cal_X6_isWord : mt_cal yX6_isWord cX6_isWord 4 (some .boolean) 1 := ⟨lw_in 1284 rfl rfl, lw_in 117 (by decide +kernel) rfl, by decide +kernel, by decide⟩
theorem ins_X6_isWord : mt_ins yX6_isWord := ⟨lw_in 1283 (by decide +kernel) rfl, lw_in 102 (by decide +kernel) rfl⟩
theorem fl_X6_247 : mt_fl RX6 247 TX6 12 := Or.inl (lw_in 923 (by decide +kernel) rfl)
theorem ml_X6_251 : mt_ml RX6 251 yX6_token := Or.inl (lw_in 1269 (by decide +kernel) rfl)
set_option maxRecDepth 100000 in
theorem cal_X6_must : mt_cal yX6_must cX6_must 2 none 1 := ⟨lw_in 1294 rfl rfl, lw_in 117 (by decide +kernel) rfl, by decide +kernel, by decide⟩
theorem ins_X6_must : mt_ins yX6_must := ⟨lw_in 1293 (by decide +kernel) rfl, lw_in 104 (by decide +kernel) rfl⟩
theorem ml_X6_254 : mt_ml RX6 254 yX6_must := Or.inl (lw_in 1291 (by decide +kernel) rfl)
set_option maxRecDepth 100000 in
theorem cal_X6_number : mt_cal yX6_number cX6_number 4 (some .int) 2 := ⟨lw_in 1298 rfl rfl, lw_in 117 (by decide +kernel) rfl, by decide +kernel, by decide⟩
theorem ins_X6_number : mt_ins yX6_number := ⟨lw_in 1297 (by decide +kernel) rfl, lw_in 105 (by decide +kernel) rfl⟩
theorem fl_X6_258 : mt_fl RX6 258 TX6 15 := Or.inl (lw_in 926 (by decide +kernel) rfl)
theorem fl_X6_45 : mt_fl RX6 45 TX6 14 := Or.inl (lw_in 925 (by decide +kernel) rfl)
set_option maxRecDepth 100000 in
theorem cal_X6_addItem : mt_cal yX6_addItem cX6_addItem 8 none 6 := ⟨lw_in 1313 rfl rfl, lw_in 117 (by decide +kernel) rfl, by decide +kernel, by decide⟩
theorem ins_X6_addItem : mt_ins yX6_addItem := ⟨lw_in 1312 (by decide +kernel) rfl, lw_in 108 (by decide +kernel) rfl⟩
theorem ml_X6_261 : mt_ml RX6 261 yX6_isWord := Or.inl (lw_in 1281 (by decide +kernel) rfl)
set_option maxRecDepth 100000 in
theorem cal_X6_takesWord : mt_cal yX6_takesWord cX6_takesWord 3 (some .boolean) 1 := ⟨lw_in 1307 rfl rfl, lw_in 117 (by decide +kernel) rfl, by decide +kernel, by decide⟩
theorem ins_X6_takesWord : mt_ins yX6_takesWord := ⟨lw_in 1306 (by decide +kernel) rfl, lw_in 107 (by decide +kernel) rfl⟩
set_option maxRecDepth 100000 in
theorem cal_X6_otherThan : mt_cal yX6_otherThan cX6_otherThan 3 (some .int) 1 := ⟨lw_in 1302 rfl rfl, lw_in 117 (by decide +kernel) rfl, by decide +kernel, by decide⟩
theorem ins_X6_otherThan : mt_ins yX6_otherThan := ⟨lw_in 1301 (by decide +kernel) rfl, lw_in 106 (by decide +kernel) rfl⟩
theorem fl_X6_265 : mt_fl RX6 265 TX6 16 := Or.inl (lw_in 927 (by decide +kernel) rfl)
theorem ml_X6_268 : mt_ml RX6 268 yX6_number := Or.inl (lw_in 1295 (by decide +kernel) rfl)
theorem ml_X6_271 : mt_ml RX6 271 yX6_otherThan := Or.inl (lw_in 1299 (by decide +kernel) rfl)
theorem ml_X6_276 : mt_ml RX6 276 yX6_takesWord := Or.inl (lw_in 1304 (by decide +kernel) rfl)
theorem ml_X6_283 : mt_ml RX6 283 yX6_addItem := Or.inl (lw_in 1310 (by decide +kernel) rfl)
set_option maxRecDepth 100000 in
theorem cal_X6_readTreaty : mt_cal yX6_readTreaty cX6_readTreaty 6 none 1 := ⟨lw_in 1290 rfl rfl, lw_in 117 (by decide +kernel) rfl, by decide +kernel, by decide⟩
theorem ins_X6_readTreaty : mt_ins yX6_readTreaty := ⟨lw_in 1289 (by decide +kernel) rfl, lw_in 103 (by decide +kernel) rfl⟩
theorem fl_X6_41 : mt_fl RX6 41 TX6 13 := Or.inl (lw_in 924 (by decide +kernel) rfl)
theorem ml_X6_287 : mt_ml RX6 287 yX6_readTreaty := Or.inl (lw_in 1287 (by decide +kernel) rfl)
set_option maxRecDepth 100000 in
theorem cal_X6_readItem : mt_cal yX6_readItem cX6_readItem 3 none 0 := ⟨lw_in 1280 rfl rfl, lw_in 117 (by decide +kernel) rfl, by decide +kernel, by decide⟩
theorem ins_X6_readItem : mt_ins yX6_readItem := ⟨lw_in 1279 (by decide +kernel) rfl, lw_in 101 (by decide +kernel) rfl⟩
set_option maxRecDepth 100000 in
theorem cal_X6_isToldSo : mt_cal yX6_isToldSo cX6_isToldSo 5 none 1 := ⟨lw_in 1320 rfl rfl, lw_in 117 (by decide +kernel) rfl, by decide +kernel, by decide⟩
theorem ins_X6_isToldSo : mt_ins yX6_isToldSo := ⟨lw_in 1319 (by decide +kernel) rfl, lw_in 109 (by decide +kernel) rfl⟩
theorem ml_X6_296 : mt_ml RX6 296 yX6_readItem := Or.inl (lw_in 1277 (by decide +kernel) rfl)
theorem ml_X6_299 : mt_ml RX6 299 yX6_isToldSo := Or.inl (lw_in 1317 (by decide +kernel) rfl)
set_option maxRecDepth 100000 in
theorem cal_X6_text : mt_cal yX6_text cX6_text 2 (some .int) 0 := ⟨lw_in 1268 rfl rfl, lw_in 117 (by decide +kernel) rfl, by decide +kernel, by decide⟩
theorem ins_X6_text : mt_ins yX6_text := ⟨lw_in 1266 (by decide +kernel) rfl, lw_in 1267 (by decide +kernel) rfl⟩
set_option maxRecDepth 100000 in
theorem cal_X6_isSpot : mt_cal yX6_isSpot cX6_isSpot 1 (some .boolean) 1 := ⟨lw_in 1327 rfl rfl, lw_in 117 (by decide +kernel) rfl, by decide +kernel, by decide⟩
theorem sta_X6_isSpot : Cond.static yX6_isSpot ∈ lw_g := lw_in 1326 (by decide +kernel) rfl
theorem ml_X6_302 : mt_ml RX6 302 yX6_isSpot := Or.inl (lw_in 1325 (by decide +kernel) rfl)
set_option maxRecDepth 100000 in
theorem cal_X6_hold : mt_cal yX6_hold cX6_hold 3 (some .int) 2 := ⟨lw_in 1324 rfl rfl, lw_in 117 (by decide +kernel) rfl, by decide +kernel, by decide⟩
theorem ins_X6_hold : mt_ins yX6_hold := ⟨lw_in 1322 (by decide +kernel) rfl, lw_in 1323 (by decide +kernel) rfl⟩
set_option maxRecDepth 100000 in
theorem cal_X6_above : mt_cal yX6_above cX6_above 1 (some .int) 1 := ⟨lw_in 1337 rfl rfl, lw_in 117 (by decide +kernel) rfl, by decide +kernel, by decide⟩
theorem sta_X6_above : Cond.static yX6_above ∈ lw_g := lw_in 1336 (by decide +kernel) rfl
theorem ml_X6_313 : mt_ml RX6 313 yX6_above := Or.inl (lw_in 1335 (by decide +kernel) rfl)
set_option maxRecDepth 100000 in
theorem cal_X6_isUnder : mt_cal yX6_isUnder cX6_isUnder 3 (some .boolean) 2 := ⟨lw_in 1334 rfl rfl, lw_in 117 (by decide +kernel) rfl, by decide +kernel, by decide⟩
theorem sta_X6_isUnder : Cond.static yX6_isUnder ∈ lw_g := lw_in 1333 (by decide +kernel) rfl
theorem ml_X6_305 : mt_ml RX6 305 yX6_isUnder := Or.inl (lw_in 1332 (by decide +kernel) rfl)
theorem kc_X6_308 : Cond.constant RX6 308 (-1000003) ∈ lw_g := lw_in 1338 (by decide +kernel) rfl
set_option maxRecDepth 100000 in
theorem cal_X6_as : mt_cal yX6_as cX6_as 4 (some .int) 2 := ⟨lw_in 1331 rfl rfl, lw_in 117 (by decide +kernel) rfl, by decide +kernel, by decide⟩
theorem ins_X6_as : mt_ins yX6_as := ⟨lw_in 1329 (by decide +kernel) rfl, lw_in 1330 (by decide +kernel) rfl⟩
set_option maxRecDepth 100000 in
theorem cal_X6_cutTo : mt_cal yX6_cutTo cX6_cutTo 2 (some .int) 2 := ⟨lw_in 1350 rfl rfl, lw_in 117 (by decide +kernel) rfl, by decide +kernel, by decide⟩
theorem sta_X6_cutTo : Cond.static yX6_cutTo ∈ lw_g := lw_in 1349 (by decide +kernel) rfl
theorem kc_X6_309 : Cond.constant RX6 309 (-1000007) ∈ lw_g := lw_in 1343 (by decide +kernel) rfl
set_option maxRecDepth 100000 in
theorem cal_X6_sheet : mt_cal yX6_sheet cX6_sheet 5 (some .int) 3 := ⟨lw_in 1342 rfl rfl, lw_in 117 (by decide +kernel) rfl, by decide +kernel, by decide⟩
theorem ins_X6_sheet : mt_ins yX6_sheet := ⟨lw_in 1340 (by decide +kernel) rfl, lw_in 1341 (by decide +kernel) rfl⟩
theorem ml_X6_310 : mt_ml RX6 310 yX6_cutTo := Or.inl (lw_in 1348 (by decide +kernel) rfl)
set_option maxRecDepth 100000 in
theorem cal_X6_write : mt_cal yX6_write cX6_write 4 (some .int) 3 := ⟨lw_in 1347 rfl rfl, lw_in 117 (by decide +kernel) rfl, by decide +kernel, by decide⟩
theorem ins_X6_write : mt_ins yX6_write := ⟨lw_in 1345 (by decide +kernel) rfl, lw_in 1346 (by decide +kernel) rfl⟩
theorem fl_X6_57 : mt_fl RX6 57 TX6 20 := Or.inl (lw_in 931 (by decide +kernel) rfl)
set_option maxRecDepth 100000 in
theorem cal_X6_copy : mt_cal yX6_copy cX6_copy 7 (some .int) 5 := ⟨lw_in 1354 rfl rfl, lw_in 117 (by decide +kernel) rfl, by decide +kernel, by decide⟩
theorem ins_X6_copy : mt_ins yX6_copy := ⟨lw_in 1352 (by decide +kernel) rfl, lw_in 1353 (by decide +kernel) rfl⟩
set_option maxRecDepth 100000 in
theorem cal_X6_load : mt_cal yX6_load cX6_load 3 (some .int) 1 := ⟨lw_in 1358 rfl rfl, lw_in 117 (by decide +kernel) rfl, by decide +kernel, by decide⟩
theorem ins_X6_load : mt_ins yX6_load := ⟨lw_in 1356 (by decide +kernel) rfl, lw_in 1357 (by decide +kernel) rfl⟩
set_option maxRecDepth 100000 in
theorem cal_X6_judge : mt_cal yX6_judge cX6_judge 3 (some .int) 1 := ⟨lw_in 1362 rfl rfl, lw_in 117 (by decide +kernel) rfl, by decide +kernel, by decide⟩
theorem ins_X6_judge : mt_ins yX6_judge := ⟨lw_in 1360 (by decide +kernel) rfl, lw_in 1361 (by decide +kernel) rfl⟩
theorem fl_X6_13 : mt_fl RX6 13 TX6 1 := Or.inl (lw_in 912 (by decide +kernel) rfl)
theorem fl_X6_316 : mt_fl RX6 316 TX6 3 := Or.inl (lw_in 914 (by decide +kernel) rfl)
set_option maxRecDepth 100000 in
theorem cal_X6_image : mt_cal yX6_image cX6_image 1 (some .int) 0 := ⟨lw_in 1366 rfl rfl, lw_in 117 (by decide +kernel) rfl, by decide +kernel, by decide⟩
theorem ins_X6_image : mt_ins yX6_image := ⟨lw_in 1364 (by decide +kernel) rfl, lw_in 1365 (by decide +kernel) rfl⟩
set_option maxRecDepth 100000 in
theorem cal_X6_undo : mt_cal yX6_undo cX6_undo 1 (some .int) 0 := ⟨lw_in 1370 rfl rfl, lw_in 117 (by decide +kernel) rfl, by decide +kernel, by decide⟩
theorem ins_X6_undo : mt_ins yX6_undo := ⟨lw_in 1368 (by decide +kernel) rfl, lw_in 1369 (by decide +kernel) rfl⟩
set_option maxRecDepth 100000 in
theorem cal_X6_forget : mt_cal yX6_forget cX6_forget 2 (some .int) 0 := ⟨lw_in 1374 rfl rfl, lw_in 117 (by decide +kernel) rfl, by decide +kernel, by decide⟩
theorem ins_X6_forget : mt_ins yX6_forget := ⟨lw_in 1372 (by decide +kernel) rfl, lw_in 1373 (by decide +kernel) rfl⟩
set_option maxRecDepth 100000 in
theorem cal_X6_count : mt_cal yX6_count cX6_count 4 (some .int) 1 := ⟨lw_in 1378 rfl rfl, lw_in 117 (by decide +kernel) rfl, by decide +kernel, by decide⟩
theorem ins_X6_count : mt_ins yX6_count := ⟨lw_in 1376 (by decide +kernel) rfl, lw_in 1377 (by decide +kernel) rfl⟩
set_option maxRecDepth 100000 in
theorem cal_X6_status : mt_cal yX6_status cX6_status 2 (some .int) 1 := ⟨lw_in 1382 rfl rfl, lw_in 117 (by decide +kernel) rfl, by decide +kernel, by decide⟩
theorem ins_X6_status : mt_ins yX6_status := ⟨lw_in 1380 (by decide +kernel) rfl, lw_in 1381 (by decide +kernel) rfl⟩
theorem bp_10 : (Int8.ofInt (10)).toInt32 = 10 := by decide
theorem bp_100 : (Int8.ofInt (100)).toInt32 = 100 := by decide
theorem bp_11 : (Int8.ofInt (11)).toInt32 = 11 := by decide
theorem bp_12 : (Int8.ofInt (12)).toInt32 = 12 := by decide
theorem bp_120 : (Int8.ofInt (120)).toInt32 = 120 := by decide
theorem bp_122 : (Int8.ofInt (122)).toInt32 = 122 := by decide
theorem bp_127 : (Int8.ofInt (127)).toInt32 = 127 := by decide
theorem bp_13 : (Int8.ofInt (13)).toInt32 = 13 := by decide
theorem bp_15 : (Int8.ofInt (15)).toInt32 = 15 := by decide
theorem bp_16 : (Int8.ofInt (16)).toInt32 = 16 := by decide
theorem bp_17 : (Int8.ofInt (17)).toInt32 = 17 := by decide
theorem bp_20 : (Int8.ofInt (20)).toInt32 = 20 := by decide
theorem bp_22 : (Int8.ofInt (22)).toInt32 = 22 := by decide
theorem bp_31 : (Int8.ofInt (31)).toInt32 = 31 := by decide
theorem bp_32 : (Int8.ofInt (32)).toInt32 = 32 := by decide
theorem bp_40 : (Int8.ofInt (40)).toInt32 = 40 := by decide
theorem bp_48 : (Int8.ofInt (48)).toInt32 = 48 := by decide
theorem bp_57 : (Int8.ofInt (57)).toInt32 = 57 := by decide
theorem bp_59 : (Int8.ofInt (59)).toInt32 = 59 := by decide
theorem bp_6 : (Int8.ofInt (6)).toInt32 = 6 := by decide
theorem bp_60 : (Int8.ofInt (60)).toInt32 = 60 := by decide
theorem bp_63 : (Int8.ofInt (63)).toInt32 = 63 := by decide
theorem bp_7 : (Int8.ofInt (7)).toInt32 = 7 := by decide
theorem bp_8 : (Int8.ofInt (8)).toInt32 = 8 := by decide
theorem bp_86 : (Int8.ofInt (86)).toInt32 = 86 := by decide
theorem bp_9 : (Int8.ofInt (9)).toInt32 = 9 := by decide
theorem bp_97 : (Int8.ofInt (97)).toInt32 = 97 := by decide
theorem ic_0 : Int32.ofInt 0 = 0 := by decide
theorem ic_1 : Int32.ofInt 1 = 1 := by decide
theorem ic_2 : Int32.ofInt 2 = 2 := by decide
theorem ic_3 : Int32.ofInt 3 = 3 := by decide
theorem ic_4 : Int32.ofInt 4 = 4 := by decide
theorem ic_5 : Int32.ofInt 5 = 5 := by decide
theorem ic_m1 : Int32.ofInt (-1) = -1 := by decide
theorem ic_m16 : Int32.ofInt (-16) = -16 := by decide
theorem ic_m2 : Int32.ofInt (-2) = -2 := by decide
theorem ic_m4 : Int32.ofInt (-4) = -4 := by decide
theorem ic_m8 : Int32.ofInt (-8) = -8 := by decide
theorem sp_10000 : (Int16.ofInt (10000)).toInt32 = 10000 := by decide
theorem sp_12345 : (Int16.ofInt (12345)).toInt32 = 12345 := by decide
theorem sp_192 : (Int16.ofInt (192)).toInt32 = 192 := by decide
theorem sp_199 : (Int16.ofInt (199)).toInt32 = 199 := by decide
theorem sp_200 : (Int16.ofInt (200)).toInt32 = 200 := by decide
theorem sp_2048 : (Int16.ofInt (2048)).toInt32 = 2048 := by decide
theorem sp_255 : (Int16.ofInt (255)).toInt32 = 255 := by decide
theorem sp_256 : (Int16.ofInt (256)).toInt32 = 256 := by decide
theorem sp_4095 : (Int16.ofInt (4095)).toInt32 = 4095 := by decide
theorem sp_4096 : (Int16.ofInt (4096)).toInt32 = 4096 := by decide
theorem sp_9999 : (Int16.ofInt (9999)).toInt32 = 9999 := by decide
