theorem mt_ne {x k : Int32} {z : Int} (h : ¬ x = k) (hk : k.toInt = z) : x.toInt ≠ z := fun q => h (Int32.toInt_inj.mp (q.trans hk.symm))
theorem mt_somE {β : Type} {b : Bool} {P1 : Option β} {o : β} (h : mt_chk b P1 = some o) : b = true ∧ P1 = some o := by
  unfold mt_chk at h
  split at h
  · exact ⟨by assumption, h⟩
  · cases h
def mt_fl (own : String) (idx : Nat) (T : u_T) (k : Nat) : Prop := Cond.fieldLink own idx (T k).1 (T k).2.1 (T k).2.2.1 ∈ lw_g ∨ Cond.fieldLinkNest own idx (T k).1 (T k).2.1 (T k).2.2.1 "MarkTreaties" ∈ lw_n
def mt_ml (own : String) (idx : Nat) (y : MethodName) : Prop := Cond.methodLink own idx y ∈ lw_g ∨ Cond.methodLinkNest own idx y "MarkTreaties" ∈ lw_n
def mt_cal (y : MethodName) (b : ByteArray) (mL : Nat) (rt : Option FieldType) (n : Nat) : Prop := Cond.code y b mL rt ∈ lw_g ∧ Cond.initialized y.cls ∈ lw_g ∧ (y.cls ≠ "java/lang/invoke/MethodHandle" ∧ y.cls ≠ "java/lang/invoke/VarHandle" ∧ (parseMethodDescriptor y.desc).map (fun d => d.parameters.length) = some n) ∧ mL ≤ 17
def mt_ins (y : MethodName) : Prop := Cond.instanceMethod y ∈ lw_g ∧ Cond.selects y.cls y y ∈ lw_g
theorem mt_E0 {G : mt_G} {f : Nat → Int32} {i : Nat} (h : mt_kd i = 0) : mt_E G f i = .inr (0, [.ref (mt_adr G (i + 1)), .int (f 1), .int (f 2), .int (f 3), .int (f 4), .int (f 5)]) := by simp only [mt_E, h]
theorem mt_E1 {G : mt_G} {f : Nat → Int32} {i : Nat} (h : mt_kd i = 1) : mt_E G f i = .inr (1, [.int (f 0), .int (f 1), .ref (mt_adr G (i + 4))]) := by simp only [mt_E, h]
theorem mt_E2 {G : mt_G} {f : Nat → Int32} {i : Nat} (h : mt_kd i = 2) : mt_E G f i = .inr (2, [.ref (mt_adr G (i + 1)), .ref (mt_adr G (i + 2)), .int (f 2)]) := by simp only [mt_E, h]
theorem mt_E3 {G : mt_G} {f : Nat → Int32} {i : Nat} (h : mt_kd i = 3) : mt_E G f i = .inr (3, [.int (f 0), .int (f 1), .int (f 2), .int (f 3), .int (f 4), .int (f 5), .int (f 6), .int (f 7)]) := by simp only [mt_E, h]
theorem mt_E4 {G : mt_G} {f : Nat → Int32} {i : Nat} (h : mt_kd i = 4) : mt_E G f i = .inr (4, [.int (f 0), .int (f 1), .ref (mt_adr G (i + 1)), .int (f 3), .int (f 4), .int (f 5), .ref (mt_adr G (i + 2)), .int (f 7), .ref (mt_adr G (i + 3))]) := by simp only [mt_E, h]
theorem mt_E5 {G : mt_G} {f : Nat → Int32} {i : Nat} (h : mt_kd i = 5) : mt_E G f i = .inr (5, [.ref (mt_adr G 1), .ref (mt_adr G 13), .int (f 2), .ref (mt_adr G 25), .ref (mt_adr G 37), .ref (mt_adr G 38), .ref (mt_adr G 39), .ref (mt_adr G 42), .ref (mt_adr G 43), .ref (mt_adr G 44), .ref (mt_adr G 46), .ref (mt_adr G 55)]) := by simp only [mt_E, h]
theorem mt_E6 {G : mt_G} {f : Nat → Int32} {i : Nat} (h : mt_kd i = 6) : mt_E G f i = .inr (6, [.ref (mt_adr G 57), .ref (mt_adr G 58), .ref (mt_adr G 59), .int (f 3), .ref (mt_adr G 60), .int (f 5), .ref (mt_adr G 61), .int (f 7), .int (f 8), .int (f 9), .int (f 10), .int (f 11), .int (f 12), .ref (mt_adr G 62), .ref (mt_adr G 63), .int (f 15), .int (f 16), .ref (mt_adr G 64), .ref (mt_adr G 65), .ref (mt_adr G 66), .ref (mt_adr G 67)]) := by simp only [mt_E, h]
theorem mt_E7 {G : mt_G} {f : Nat → Int32} {i : Nat} (h : mt_kd i = 7) : mt_E G f i = .inl (mt_cA G 7, mt_ln i, .inl f) := by simp only [mt_E, h]
theorem mt_E8 {G : mt_G} {f : Nat → Int32} {i : Nat} (h : mt_kd i = 8) : mt_E G f i = .inl (mt_cA G 8, mt_ln i, .inl f) := by simp only [mt_E, h]
theorem mt_E9 {G : mt_G} {f : Nat → Int32} {i : Nat} (h : mt_kd i = 9) : mt_E G f i = .inl (mt_cA G 9, mt_ln i, .inr (.inr (.inr (.inr fun t => some (mt_adr G (i + 2 + t)))))) := by simp only [mt_E, h]
theorem mt_E10 {G : mt_G} {f : Nat → Int32} {i : Nat} (h : mt_kd i = 10) : mt_E G f i = .inl (mt_cA G 10, mt_ln i, .inr (.inr (.inr (.inr fun t => some (mt_adr G (i + 1 + t)))))) := by simp only [mt_E, h]
theorem mt_E11 {G : mt_G} {f : Nat → Int32} {i : Nat} (h : mt_kd i = 11) : mt_E G f i = .inl (mt_cA G 11, mt_ln i, .inr (.inr (.inr (.inr fun t => some (mt_aK G t))))) := by simp only [mt_E, h]
theorem mt_lt {i k : Nat} (h : mt_kd i = k) (hk : k < 12) : i < 68 := mt_kd_lt (by omega)
theorem mt_obj {G : mt_G} {f : Nat → Int32} {i ci : Nat} (h : mt_kd i = ci) (hc : ci < 7) : ∃ fs, mt_E G f i = .inr (ci, fs) := by
  rcases (show ci = 0 ∨ ci = 1 ∨ ci = 2 ∨ ci = 3 ∨ ci = 4 ∨ ci = 5 ∨ ci = 6 by omega) with rfl | rfl | rfl | rfl | rfl | rfl | rfl
  · exact ⟨_, mt_E0 h⟩
  · exact ⟨_, mt_E1 h⟩
  · exact ⟨_, mt_E2 h⟩
  · exact ⟨_, mt_E3 h⟩
  · exact ⟨_, mt_E4 h⟩
  · exact ⟨_, mt_E5 h⟩
  · exact ⟨_, mt_E6 h⟩
section MH
variable {K : mt_C} {cc : ByteArray} {own : String} {nL d : Nat} {σ : mt_St} {pc : Nat} {lv : List (Nat × Value)} {st : List Value} {P : Prop}
theorem mv_getf {ci k N c idx : Nat} {C : String} {T : u_T} {fs : List Value} {v : Value} (hc : mt_cl[ci]? = some (C, T, N)) (hin : ∀ w ∈ u_ws C T N, w ∈ lw_g) (hlt : c < 68) (hE : mt_E (kG K) (σ c) c = .inr (ci, fs)) (hk : k < N) (hw : mt_fl own idx T k) (hv : fs[k]? = some v) (hd : decode cc pc = .ok (.getfield idx, 3)) (kk : mt_V K cc own nL d σ (pc + 3) lv (v :: st) P) : mt_V K cc own nL d σ pc lv (.ref (mt_adr (kG K) c) :: st) P := by
  intro hP hX H locs ls h1 h2 hl
  have k1 := kk hP hX H locs ls h1 h2 hl
  obtain ⟨hx, hb, hml, hown, hts, hK, hd2, hr, hlk⟩ := hX
  rcases hw with hw | hw
  · exact va_get (D := mt_D (kG K)) hx hb hts hin hown hK.1 h1 c (by rw [mt_ws_at hlt, hE]) hc k hk (hts _ hw) (fun _ h9 => h9) hv hd k1
  · exact va_getN (D := mt_D (kG K)) hx hb hts hin hown hK.1 h1 c (by rw [mt_ws_at hlt, hE]) hc k hk (va_Nw.use rfl (hK.2.2.2.2.2.2.2.2 _ hw)) (fun _ h9 => h9) hv hd k1
theorem mv_putf {β : Type} {ci k N c idx : Nat} {C : String} {T : u_T} {ty0 : Nat → FieldType} {fs : List Value} {v : Int32} {ty : FieldType} {kf : mt_St → Option β} {o : Option β} (hc : mt_cl[ci]? = some (C, T, N)) (hin : ∀ w ∈ u_ws C T N, w ∈ lw_g) (hty : ∀ k, k < N → parseFieldDescriptor (T k).2.2.1 = some (ty0 k)) (hnm : ∀ a, a < N → ∀ b, b < N → a ≠ b → (T a).2.1 ≠ (T b).2.1) (hlt : c < 68) (hE : mt_E (kG K) (σ c) c = .inr (ci, fs)) (hE2 : mt_E (kG K) (upd (σ c) k v) c = .inr (ci, fs.set k (.int v))) (hk : k < N) (hw : mt_fl own idx T k) (hfin : (T k).2.2.2 = false) (hdt : parseFieldDescriptor (T k).2.2.1 = some ty) (hn : narrow ty (.int v) = .int v) (hfit : fits ty (.int v) = true) (hlen : k < fs.length) (hd : decode cc pc = .ok (.putfield idx, 3)) (kk : ∀ σ1, mt_V K cc own nL d σ1 (pc + 3) lv st (kf σ1 = o)) : mt_V K cc own nL d σ pc lv (.int v :: .ref (mt_adr (kG K) c) :: st) (mt_bnd (mt_up σ c k v) kf = o) := by
  intro hP hX H locs ls h1 h2 hl
  have k1 := kk (mt_up σ c k v) hP hX
  obtain ⟨hx, hb, hml, hown, hts, hK, hd2, hr, hlk⟩ := hX
  have he : mt_E (kG K) (mt_up σ c k v c) c = .inr (ci, fs.set k (.int v)) := by rw [mt_up, mt_row_s]; exact hE2
  have ho : ∀ j, j ≠ c → mt_up σ c k v j = σ j := fun j hj => mt_row_n hj
  rcases hw with hw | hw
  · refine va_put (D := mt_D (kG K)) (v := .int v) (ty := ty) hx hb hts hin ty0 hty hnm hown hK.1 h1 (mt_dis hK.2.1 σ) h2 c (by rw [mt_ws_at hlt, hE]) hc k hk (hts _ hw) (fun _ h9 => h9) hfin hdt hn hfit hlen hd (fun H1 l1 q1 q2 q3 => ?_)
    rw [mt_ws_set hlt he ho] at q1
    exact k1 H1 l1 ls q1 q3 hl
  · refine va_putN (D := mt_D (kG K)) (v := .int v) (ty := ty) hx hb hts hin ty0 hty hnm hown hK.1 h1 (mt_dis hK.2.1 σ) h2 c (by rw [mt_ws_at hlt, hE]) hc k hk (va_Nw.use rfl (hK.2.2.2.2.2.2.2.2 _ hw)) (fun _ h9 => h9) hfin hdt hn hfit hlen hd (fun H1 l1 q1 q2 q3 => ?_)
    rw [mt_ws_set hlt he ho] at q1
    exact k1 H1 l1 ls q1 q3 hl
theorem mv_iald {β : Type} {c : Nat} {i : Int32} {P1 : Option β} {o : β} (n : Nat) (hk : mt_kd c = 7) (hn : mt_ln c = n) (hd : decode cc pc = .ok (.iaload, 1)) (kk : mt_V K cc own nL d σ (pc + 1) lv (.int (σ c i.toNatClampNeg) :: st) (P1 = some o)) : mt_V K cc own nL d σ pc lv (.int i :: .ref (mt_adr (kG K) c) :: st) (mt_chk (mt_in i n) P1 = some o) := by
  intro hP hX H locs ls h1 h2 hl
  obtain ⟨hb0, hP⟩ := mt_somE hP
  have k1 := kk hP hX H locs ls h1 h2 hl
  obtain ⟨hx, hb, hml, hown, hts, hK, hd2, hr, hlk⟩ := hX
  exact va_iald (D := mt_D (kG K)) hx hb hK.1 h1 c 0 (by rw [mt_ws_at (mt_lt hk (by decide)), mt_E7 hk]) rfl (by rw [hn]; exact mt_in_iff.mp hb0) hd k1
theorem mv_ialdk {c : Nat} {i : Int32} (n j : Nat) (hk : mt_kd c = 7) (hn : mt_ln c = n) (hi : mt_in i n = true) (hj : i.toNatClampNeg = j) (hd : decode cc pc = .ok (.iaload, 1)) (kk : mt_V K cc own nL d σ (pc + 1) lv (.int (σ c j) :: st) P) : mt_V K cc own nL d σ pc lv (.int i :: .ref (mt_adr (kG K) c) :: st) P := by
  intro hP hX H locs ls h1 h2 hl
  have k1 := kk hP hX H locs ls h1 h2 hl
  obtain ⟨hx, hb, hml, hown, hts, hK, hd2, hr, hlk⟩ := hX
  subst hj
  exact va_iald (D := mt_D (kG K)) hx hb hK.1 h1 c 0 (by rw [mt_ws_at (mt_lt hk (by decide)), mt_E7 hk]) rfl (by rw [hn]; exact mt_in_iff.mp hi) hd k1
theorem mv_bald {β : Type} {c : Nat} {i : Int32} {P1 : Option β} {o : β} (n : Nat) (hk : mt_kd c = 8) (hn : mt_ln c = n) (hd : decode cc pc = .ok (.baload, 1)) (kk : mt_V K cc own nL d σ (pc + 1) lv (.int (σ c i.toNatClampNeg) :: st) (P1 = some o)) : mt_V K cc own nL d σ pc lv (.int i :: .ref (mt_adr (kG K) c) :: st) (mt_chk (mt_in i n) P1 = some o) := by
  intro hP hX H locs ls h1 h2 hl
  obtain ⟨hb0, hP⟩ := mt_somE hP
  have k1 := kk hP hX H locs ls h1 h2 hl
  obtain ⟨hx, hb, hml, hown, hts, hK, hd2, hr, hlk⟩ := hX
  exact va_bald (D := mt_D (kG K)) hx hb hK.1 h1 c 1 (by rw [mt_ws_at (mt_lt hk (by decide)), mt_E8 hk]) rfl (by rw [hn]; exact mt_in_iff.mp hb0) hd k1
theorem mv_alen {c : Nat} {v : Int32} (n : Nat) (hk : mt_kd c = 7) (hn : mt_ln c = n) (hv : Int32.ofNat n = v) (hd : decode cc pc = .ok (.arraylength, 1)) (kk : mt_V K cc own nL d σ (pc + 1) lv (.int v :: st) P) : mt_V K cc own nL d σ pc lv (.ref (mt_adr (kG K) c) :: st) P := by
  intro hP hX H locs ls h1 h2 hl
  have k1 := kk hP hX H locs ls h1 h2 hl
  obtain ⟨hx, hb, hml, hown, hts, hK, hd2, hr, hlk⟩ := hX
  exact va_alen (D := mt_D (kG K)) (ty := .int) hx hb hK.1 h1 c 0 (by rw [mt_ws_at (mt_lt hk (by decide)), mt_E7 hk]) rfl (by show Int32.ofNat (mt_ln c) = v; rw [hn]; exact hv) hd k1
theorem mv_alenS {c : Nat} {v : Int32} (n : Nat) (hk : mt_kd c = 11) (hn : mt_ln c = n) (hv : Int32.ofNat n = v) (hd : decode cc pc = .ok (.arraylength, 1)) (kk : mt_V K cc own nL d σ (pc + 1) lv (.int v :: st) P) : mt_V K cc own nL d σ pc lv (.ref (mt_adr (kG K) c) :: st) P := by
  intro hP hX H locs ls h1 h2 hl
  have k1 := kk hP hX H locs ls h1 h2 hl
  obtain ⟨hx, hb, hml, hown, hts, hK, hd2, hr, hlk⟩ := hX
  exact va_alen (D := mt_D (kG K)) (ty := .object "java/lang/String") hx hb hK.1 h1 c 4 (by rw [mt_ws_at (mt_lt hk (by decide)), mt_E11 hk]) rfl (by show Int32.ofNat (mt_ln c) = v; rw [hn]; exact hv) hd k1
theorem mv_aaldT {β : Type} {c : Nat} {i : Int32} {P1 : Option β} {o : β} (hk : mt_kd c = 9) (hn : mt_ln c = 8) (hd : decode cc pc = .ok (.aaload, 1)) (kk : mt_in i 8 = true → mt_V K cc own nL d σ (pc + 1) lv (.ref (mt_adr (kG K) (c + 2 + i.toNatClampNeg)) :: st) (P1 = some o)) : mt_V K cc own nL d σ pc lv (.int i :: .ref (mt_adr (kG K) c) :: st) (mt_chk (mt_in i 8) P1 = some o) := by
  intro hP hX H locs ls h1 h2 hl
  obtain ⟨hb0, hP⟩ := mt_somE hP
  have k1 := kk hb0 hP hX H locs ls h1 h2 hl
  obtain ⟨hx, hb, hml, hown, hts, hK, hd2, hr, hlk⟩ := hX
  exact va_aldq (D := mt_D (kG K)) (C := "MarkTreaties$Treaty") (f := fun t => some (mt_adr (kG K) (c + 2 + t))) hx hb hK.1 h1 c 2 (by rw [mt_ws_at (mt_lt hk (by decide)), mt_E9 hk]) rfl (by rw [hn]; exact mt_in_iff.mp hb0) hd k1
theorem mv_aaldS {β : Type} {c : Nat} {i : Int32} {P1 : Option β} {o : β} (hk : mt_kd c = 10) (hn : mt_ln c = 4) (hd : decode cc pc = .ok (.aaload, 1)) (kk : mt_in i 4 = true → mt_V K cc own nL d σ (pc + 1) lv (.ref (mt_adr (kG K) (c + 1 + i.toNatClampNeg)) :: st) (P1 = some o)) : mt_V K cc own nL d σ pc lv (.int i :: .ref (mt_adr (kG K) c) :: st) (mt_chk (mt_in i 4) P1 = some o) := by
  intro hP hX H locs ls h1 h2 hl
  obtain ⟨hb0, hP⟩ := mt_somE hP
  have k1 := kk hb0 hP hX H locs ls h1 h2 hl
  obtain ⟨hx, hb, hml, hown, hts, hK, hd2, hr, hlk⟩ := hX
  exact va_aldq (D := mt_D (kG K)) (C := "MarkTreaties$Sheet") (f := fun t => some (mt_adr (kG K) (c + 1 + t))) hx hb hK.1 h1 c 3 (by rw [mt_ws_at (mt_lt hk (by decide)), mt_E10 hk]) rfl (by rw [hn]; exact mt_in_iff.mp hb0) hd k1
theorem mv_aaldN {β : Type} {c : Nat} {i : Int32} {P1 : Option β} {o : β} (hk : mt_kd c = 11) (hn : mt_ln c = 7) (hd : decode cc pc = .ok (.aaload, 1)) (kk : mt_in i 7 = true → mt_V K cc own nL d σ (pc + 1) lv (.ref (mt_aK (kG K) i.toNatClampNeg) :: st) (P1 = some o)) : mt_V K cc own nL d σ pc lv (.int i :: .ref (mt_adr (kG K) c) :: st) (mt_chk (mt_in i 7) P1 = some o) := by
  intro hP hX H locs ls h1 h2 hl
  obtain ⟨hb0, hP⟩ := mt_somE hP
  have k1 := kk hb0 hP hX H locs ls h1 h2 hl
  obtain ⟨hx, hb, hml, hown, hts, hK, hd2, hr, hlk⟩ := hX
  exact va_aldq (D := mt_D (kG K)) (C := "java/lang/String") (f := fun t => some (mt_aK (kG K) t)) hx hb hK.1 h1 c 4 (by rw [mt_ws_at (mt_lt hk (by decide)), mt_E11 hk]) rfl (by rw [hn]; exact mt_in_iff.mp hb0) hd k1
theorem mv_iast0 {c : Nat} {i v : Int32} {P : Prop} (n : Nat) (hk : mt_kd c = 7) (hn : mt_ln c = n) (hi : mt_in i n = true) (hd : decode cc pc = .ok (.iastore, 1)) (kk : mt_V K cc own nL d (mt_up σ c i.toNatClampNeg v) (pc + 1) lv st P) : mt_V K cc own nL d σ pc lv (.int v :: .int i :: .ref (mt_adr (kG K) c) :: st) P := by
  intro hP hX H locs ls h1 h2 hl
  have k1 := kk hP hX
  obtain ⟨hx, hb, hml, hown, hts, hK, hd2, hr, hlk⟩ := hX
  have hlt := mt_lt hk (by decide)
  refine va_iast (D := mt_D (kG K)) hx hb hK.1 h1 (mt_dis hK.2.1 σ) h2 c 0 (by rw [mt_ws_at hlt, mt_E7 hk]) rfl (by rw [hn]; exact mt_in_iff.mp hi) hd (fun H1 l1 q1 q2 q3 => ?_)
  rw [mt_ws_set (σ' := mt_up σ c i.toNatClampNeg v) hlt (by rw [mt_up, mt_row_s]; exact mt_E7 hk) (fun j hj => mt_row_n hj)] at q1
  exact k1 H1 l1 ls q1 q3 hl
theorem mv_iast {β : Type} {c : Nat} {i v : Int32} {kf : mt_St → Option β} {o : β} (n : Nat) (hk : mt_kd c = 7) (hn : mt_ln c = n) (hd : decode cc pc = .ok (.iastore, 1)) (kk : ∀ σ1, mt_V K cc own nL d σ1 (pc + 1) lv st (kf σ1 = some o)) : mt_V K cc own nL d σ pc lv (.int v :: .int i :: .ref (mt_adr (kG K) c) :: st) (mt_chk (mt_in i n) (mt_bnd (mt_up σ c i.toNatClampNeg v) kf) = some o) := by
  intro hP
  obtain ⟨hb0, hP⟩ := mt_somE hP
  exact mv_iast0 n hk hn hb0 hd (kk _) hP
theorem mv_iastk {β : Type} {c : Nat} {i v : Int32} {kf : mt_St → Option β} {o : Option β} (n j : Nat) (hk : mt_kd c = 7) (hn : mt_ln c = n) (hi : mt_in i n = true) (hj : i.toNatClampNeg = j) (hd : decode cc pc = .ok (.iastore, 1)) (kk : ∀ σ1, mt_V K cc own nL d σ1 (pc + 1) lv st (kf σ1 = o)) : mt_V K cc own nL d σ pc lv (.int v :: .int i :: .ref (mt_adr (kG K) c) :: st) (mt_bnd (mt_up σ c j v) kf = o) := by
  subst hj
  exact fun hP => mv_iast0 n hk hn hi hd (kk _) hP
theorem mv_bast {β : Type} {c : Nat} {i v : Int32} {kf : mt_St → Option β} {o : β} (n : Nat) (hk : mt_kd c = 8) (hn : mt_ln c = n) (hd : decode cc pc = .ok (.bastore, 1)) (kk : ∀ σ1, mt_V K cc own nL d σ1 (pc + 1) lv st (kf σ1 = some o)) : mt_V K cc own nL d σ pc lv (.int v :: .int i :: .ref (mt_adr (kG K) c) :: st) (mt_chk (mt_in i n) (mt_bnd (mt_up σ c i.toNatClampNeg (vp_nar .byte v)) kf) = some o) := by
  intro hP hX H locs ls h1 h2 hl
  obtain ⟨hb0, hP⟩ := mt_somE hP
  have k1 := kk _ hP hX
  obtain ⟨hx, hb, hml, hown, hts, hK, hd2, hr, hlk⟩ := hX
  have hlt := mt_lt hk (by decide)
  refine va_bast (D := mt_D (kG K)) hx hb hK.1 h1 (mt_dis hK.2.1 σ) h2 c 1 (by rw [mt_ws_at hlt, mt_E8 hk]) rfl (by rw [hn]; exact mt_in_iff.mp hb0) hd (fun H1 l1 q1 q2 q3 => ?_)
  rw [mt_ws_set (σ' := mt_up σ c i.toNatClampNeg (vp_nar .byte v)) hlt (by rw [mt_up, mt_row_s]; exact mt_E8 hk) (fun j hj => mt_row_n hj)] at q1
  exact k1 H1 l1 ls q1 q3 hl
theorem mv_case {β : Type} {x k : Int32} {P1 P2 o : Option β} (h1 : x = k → mt_V K cc own nL d σ pc lv st (P1 = o)) (h2 : ¬ x = k → mt_V K cc own nL d σ pc lv st (P2 = o)) : mt_V K cc own nL d σ pc lv st ((if x = k then P1 else P2) = o) := by
  intro hP
  by_cases h : x = k
  · exact h1 h (by rw [if_pos h] at hP; exact hP)
  · exact h2 h (by rw [if_neg h] at hP; exact hP)
theorem mv_tsin {x : Int32} {dflt lo hi off : Int} {offs : Array Int} {len : Nat} (k : Int32) (tgt : Nat) (hx : x = k) (hd : decode cc pc = .ok (.tableswitch dflt lo hi offs, len)) (a1 : ¬ k.toInt < lo) (a2 : ¬ hi < k.toInt) (ho : offs[(k.toInt - lo).toNat]? = some off) (ht : (pc : Int) + off = (tgt : Int)) (kk : mt_V K cc own nL d σ tgt lv st P) : mt_V K cc own nL d σ pc lv (.int x :: st) P := by
  subst hx
  exact fun hP hX H locs ls h1 h2 hl => lv_tableIn hX.1 hX.2.1 hd a1 a2 ho ht (kk hP hX H locs ls h1 h2 hl)
theorem mv_tsout {x : Int32} {dflt lo hi : Int} {offs : Array Int} {len : Nat} (tgt : Nat) (hx : x.toInt < lo ∨ hi < x.toInt) (hd : decode cc pc = .ok (.tableswitch dflt lo hi offs, len)) (ht : (pc : Int) + dflt = (tgt : Int)) (kk : mt_V K cc own nL d σ tgt lv st P) : mt_V K cc own nL d σ pc lv (.int x :: st) P :=
  fun hP hX H locs ls h1 h2 hl => lv_tableOut hX.1 hX.2.1 hd hx ht (kk hP hX H locs ls h1 h2 hl)
theorem mt_fin {G : mt_G} {σ : mt_St} {s t : State} {H : Heap} {locs : List Loc} (h1 : va_P (mt_D G) mt_cl (mt_ws G σ) H) (h2 : va_S (mt_A G) s.heap H locs) (o : Option Value) (ht : t.heap = H) (a : Array Value) : mt_Qc G o σ a s (.returned o) t :=
  ⟨rfl, by rw [ht]; exact h1, by rw [ht]; exact h2.1, fun q a1 a2 => by rw [ht]; exact h2.2.1 q a1 a2⟩
theorem mv_iret {r v : Int32} {σ' : mt_St} (hQ : mt_R K (some .int) (some (.int r)) σ') (hd : decode cc pc = .ok (.ireturn, 1)) : mt_V K cc own nL d σ pc lv [.int v] (some (v, σ) = some (r, σ')) := by
  intro hP hX H locs ls h1 h2 hl
  cases hP
  obtain ⟨hx, hb, hml, hown, hts, hK, hd2, hr, hlk⟩ := hX
  obtain ⟨e1, e2, e3, e4⟩ := hQ
  unfold mt_W
  rw [e1, e3, e4]
  exact W.iret hx hb e2 (fun t ht hW => mt_fin h1 h2 _ ht _) h2.2.2 hd hlk
theorem mv_iretr {r v : Int32} (hQ : mt_R K (some .int) (some (.int r)) σ) (hd : decode cc pc = .ok (.ireturn, 1)) : mt_V K cc own nL d σ pc lv [.int v] (some v = some r) :=
  fun hP => mv_iret hQ hd (by cases hP; rfl)
theorem mt_n01 {v : Int32} (h : mt_b01 v = true) : narrow .boolean (.int v) = .int v ∧ fits .boolean (.int v) = true := by
  simp only [mt_b01, Bool.or_eq_true, decide_eq_true_eq] at h
  rcases h with rfl | rfl
  · exact ⟨by decide +kernel, by decide +kernel⟩
  · exact ⟨by decide +kernel, by decide +kernel⟩
theorem mv_zret0 {r v : Int32} {σ' : mt_St} (hQ : mt_R K (some .boolean) (some (.int r)) σ') (hb0 : mt_b01 v = true) (hd : decode cc pc = .ok (.ireturn, 1)) : mt_V K cc own nL d σ pc lv [.int v] (some (v, σ) = some (r, σ')) := by
  intro hP hX H locs ls h1 h2 hl
  cases hP
  obtain ⟨hx, hb, hml, hown, hts, hK, hd2, hr, hlk⟩ := hX
  obtain ⟨e1, e2, e3, e4⟩ := hQ
  unfold mt_W
  rw [e1, e3, e4]
  exact W.zret hx hb e2 (mt_n01 hb0).1 (fun t ht hW => mt_fin h1 h2 _ ht _) h2.2.2 hd hlk
theorem mv_zret {r v : Int32} {σ' : mt_St} (hQ : mt_R K (some .boolean) (some (.int r)) σ') (hd : decode cc pc = .ok (.ireturn, 1)) : mt_V K cc own nL d σ pc lv [.int v] (mt_chk (mt_b01 v) (some (v, σ)) = some (r, σ')) :=
  fun hP => mv_zret0 hQ (mt_somE hP).1 hd (mt_somE hP).2
theorem mv_zretr0 {r v : Int32} (hQ : mt_R K (some .boolean) (some (.int r)) σ) (hb0 : mt_b01 v = true) (hd : decode cc pc = .ok (.ireturn, 1)) : mt_V K cc own nL d σ pc lv [.int v] (some v = some r) :=
  fun hP => mv_zret0 hQ hb0 hd (by cases hP; rfl)
theorem mv_zretr {r v : Int32} (hQ : mt_R K (some .boolean) (some (.int r)) σ) (hd : decode cc pc = .ok (.ireturn, 1)) : mt_V K cc own nL d σ pc lv [.int v] (mt_chk (mt_b01 v) (some v) = some r) :=
  fun hP => mv_zretr0 hQ (mt_somE hP).1 hd (mt_somE hP).2
theorem mv_lret {r v : Int64} {σ' : mt_St} (hQ : mt_R K (some .long) (some (.long r)) σ') (hd : decode cc pc = .ok (.lreturn, 1)) : mt_V K cc own nL d σ pc lv [.long v] (some (v, σ) = some (r, σ')) := by
  intro hP hX H locs ls h1 h2 hl
  cases hP
  obtain ⟨hx, hb, hml, hown, hts, hK, hd2, hr, hlk⟩ := hX
  obtain ⟨e1, e2, e3, e4⟩ := hQ
  unfold mt_W
  rw [e1, e3, e4]
  exact W.lret hx hb e2 (fun t ht hW => mt_fin h1 h2 _ ht _) h2.2.2 hd hlk
theorem mv_lretr {r v : Int64} (hQ : mt_R K (some .long) (some (.long r)) σ) (hd : decode cc pc = .ok (.lreturn, 1)) : mt_V K cc own nL d σ pc lv [.long v] (some v = some r) :=
  fun hP => mv_lret hQ hd (by cases hP; rfl)
theorem mv_vret {u : Unit} {σ' : mt_St} (hQ : mt_R K none none σ') (hd : decode cc pc = .ok (.return_, 1)) : mt_V K cc own nL d σ pc lv [] (some ((), σ) = some (u, σ')) := by
  intro hP hX H locs ls h1 h2 hl
  cases hP
  obtain ⟨hx, hb, hml, hown, hts, hK, hd2, hr, hlk⟩ := hX
  obtain ⟨e1, e2, e3, e4⟩ := hQ
  unfold mt_W
  rw [e1, e3, e4]
  exact W.vret hx hb e2 (fun t ht hW => mt_fin h1 h2 _ ht _) h2.2.2 hd hlk
/-- behind a call -/
theorem mt_after {H : Heap} {locs : List Loc} {ls : Array Slot} {stk : List Value} {ov : Option Value} {σ1 : mt_St} {a : Array Value} (hr : va_Run (kp K) (kl K) (ke K) (kR K) (ks K) (km K) (ka K) (kb K) (kt K) (kc K) H locs (kn K) (kz K) 0 0 (F0 (km K) pc ls stk) st (mt_Qc (kG K) ov σ1 a) (mt_A (kG K))) (h2 : va_S (mt_A (kG K)) (ks K).heap H locs)
    (kk : ∀ (H1 : Heap) (locs1 : List Loc), va_P (mt_D (kG K)) mt_cl (mt_ws (kG K) σ1) H1 → va_S (mt_A (kG K)) (ks K).heap H1 locs1 → mt_W K H1 locs1 (F0 (km K) (pc + 3) ls (ov.toList ++ st))) : mt_W K H locs (F0 (km K) pc ls stk) := by
  intro T hT X
  obtain ⟨v, st₀, t, T', L, h0, X', hL, e1, e2, ⟨hv, hp, hz, hk⟩, stp⟩ := hr T hT X
  cases hv
  rw [h0] at hz hk
  obtain ⟨t2, a1, b1⟩ := kk T'.heap (locs ++ L) (by rw [e1]; exact hp)
    ⟨Nat.le_trans h2.1 (by rw [e1]; exact hz), fun q g1 g2 => by rw [e1, hk q (Nat.lt_of_lt_of_le g1 h2.1) g2]; exact h2.2.1 q g1 g2, fun q hq => by
      rcases List.mem_append.mp hq with h | h
      · exact h2.2.2 q h
      · exact hL q h⟩ T' rfl X'
  exact ⟨t2, stp t2 a1, b1⟩
theorem mt_gin (y : MethodName) (b : ByteArray) (mL : Nat) (rt : Option FieldType) (h : Cond.code y b mL rt ∈ lw_g) : GoodIn lw_g (Cond.code y b mL rt :: lw_g) := by
  intro w hw
  rcases List.mem_cons.mp hw with rfl | hw
  · exact ⟨h, lw_gg _ h⟩
  · exact ⟨hw, lw_gg _ hw⟩
theorem mt_fb (G : mt_G) (σ : mt_St) (As : List Value) : FrameBlind (mt_Pc G σ As) := fun a U g mk q => ⟨q.1, q.2.1, mt_K.blind g mk a q.2.2⟩
theorem mv_cV0 {y : MethodName} {b : ByteArray} {mL n d' idx c ci : Nat} {rt : Option FieldType} {As stk : List Value} {ov : Option Value} {σ1 : mt_St} {T : u_T} {N : Nat} (hcal : mt_cal y b mL rt n) (hins : mt_ins y) (hml0 : mt_ml own idx y) (hr : mt_kd c = ci) (hci : ci < 7) (hcl : mt_cl[ci]? = some (y.cls, T, N)) (hn : As.length = n) (hD : d' + 1 ≤ d) (hst : stk = As.reverse ++ .ref (mt_adr (kG K) c) :: st) (hw8 : (st.map fun v => v.category).sum ≤ 8) (hd : decode cc pc = .ok (.invokevirtual idx, 3))
    (con : mt_Con (kl K) (kG K) y b mL rt d' (.ref (mt_adr (kG K) c) :: As) σ ov σ1) (kk : mt_V K cc own nL d σ1 (pc + 3) lv (ov.toList ++ st) P) : mt_V K cc own nL d σ pc lv stk P := by
  intro hP hX H locs ls h1 h2 hl
  have k1 := kk hP hX
  obtain ⟨hx, hb, hml, hown, hts, hK, hd2, hrr, hlk⟩ := hX
  obtain ⟨c1, c2, c3, c4⟩ := hcal
  obtain ⟨fs, hE⟩ := mt_obj (G := kG K) (f := σ c) hr hci
  have hlt := mt_lt hr (by omega)
  have hpre : PreV (ks K) H y.cls (mt_adr (kG K) c) (mt_Pc (kG K) σ (.ref (mt_adr (kG K) c) :: As)) As :=
    ⟨mt_fb _ _ _, va_recv (q0 := c) hK.1 h1 hcl (by rw [mt_ws_at hlt, hE]), fun U hU hW => ⟨rfl, by rw [hU]; exact h1, mt_K.go hW (by rw [hU]; exact h2) hK⟩⟩
  have hR : (mt_rm d').frames + 1 ≤ (kR K).frames ∧ 8 + (mL + 11) + (mt_rm d').locals ≤ (kR K).locals := by
    refine ⟨by show d' + 1 ≤ _; omega, ?_⟩
    show 8 + (mL + 11) + 36 * d' ≤ _
    omega
  refine mt_after (a := (Value.ref (mt_adr (kG K) c) :: As).toArray) (σ1 := σ1) (ov := ov) ?_ h2 (fun H1 l1 q1 q3 => k1 H1 l1 ls q1 q3 hl)
  rcases hml0 with hm | hm
  · exact va_runV (C := y.cls) ⟨hx, hb, hml, hown, hts⟩ con ⟨callB_of n hts (mt_gin y b mL rt c1) rfl rfl rfl (hts _ c2) (hts _ hm) c3 hR, hts _ hins.1, hts _ hins.2⟩ hpre rfl hn hl.1 hst (lv_room hw8) hd ⟨hrr.1, hrr.2⟩
  · exact va_runVN (C := y.cls) (host := "MarkTreaties") ⟨hx, hb, hml, hown, hts⟩ con ⟨⟨⟨rfl, rfl, hR.1, hR.2, pay_in hts (mt_gin y b mL rt c1), List.mem_cons_self⟩, hts _ c1, hts _ c2, ⟨c3.1, c3.2.1⟩, fun sig h => by have h2 := c3.2.2; rw [h] at h2; exact (Option.some.inj h2).symm, va_Nw.use rfl (hK.2.2.2.2.2.2.2.2 _ hm)⟩, hts _ hins.1, hts _ hins.2⟩ hpre rfl hn hl.1 hst (lv_room hw8) hd ⟨hrr.1, hrr.2⟩
theorem mv_cS0 {y : MethodName} {b : ByteArray} {mL n d' idx : Nat} {rt : Option FieldType} {As stk : List Value} {ov : Option Value} {σ1 : mt_St} (hcal : mt_cal y b mL rt n) (hsta : Cond.static y ∈ lw_g) (hml0 : mt_ml own idx y) (hn : As.length = n) (hD : d' + 1 ≤ d) (hst : stk = As.reverse ++ st) (hw8 : (st.map fun v => v.category).sum ≤ 8) (hd : decode cc pc = .ok (.invokestatic idx, 3))
    (con : mt_Con (kl K) (kG K) y b mL rt d' As σ ov σ1) (kk : mt_V K cc own nL d σ1 (pc + 3) lv (ov.toList ++ st) P) : mt_V K cc own nL d σ pc lv stk P := by
  intro hP hX H locs ls h1 h2 hl
  have k1 := kk hP hX
  obtain ⟨hx, hb, hml, hown, hts, hK, hd2, hrr, hlk⟩ := hX
  obtain ⟨c1, c2, c3, c4⟩ := hcal
  have hpre : PreS (ks K) H (mt_Pc (kG K) σ As) As :=
    ⟨mt_fb _ _ _, fun U hU hW => ⟨rfl, by rw [hU]; exact h1, mt_K.go hW (by rw [hU]; exact h2) hK⟩⟩
  have hR : (mt_rm d').frames + 1 ≤ (kR K).frames ∧ 8 + (mL + 11) + (mt_rm d').locals ≤ (kR K).locals := by
    refine ⟨by show d' + 1 ≤ _; omega, ?_⟩
    show 8 + (mL + 11) + 36 * d' ≤ _
    omega
  refine mt_after (a := As.toArray) (σ1 := σ1) (ov := ov) ?_ h2 (fun H1 l1 q1 q3 => k1 H1 l1 ls q1 q3 hl)
  rcases hml0 with hm | hm
  · exact va_runS ⟨hx, hb, hml, hown, hts⟩ con ⟨callB_of n hts (mt_gin y b mL rt c1) rfl rfl rfl (hts _ c2) (hts _ hm) c3 hR, hts _ hsta⟩ hpre rfl hn hl.1 hst (lv_room hw8) hd ⟨hrr.1, hrr.2⟩
  · exact va_runSN (host := "MarkTreaties") ⟨hx, hb, hml, hown, hts⟩ con ⟨⟨⟨rfl, rfl, hR.1, hR.2, pay_in hts (mt_gin y b mL rt c1), List.mem_cons_self⟩, hts _ c1, hts _ c2, ⟨c3.1, c3.2.1⟩, fun sig h => by have h2 := c3.2.2; rw [h] at h2; exact (Option.some.inj h2).symm, va_Nw.use rfl (hK.2.2.2.2.2.2.2.2 _ hm)⟩, hts _ hsta, trivial⟩ hpre rfl hn hl.1 hst (lv_room hw8) hd ⟨hrr.1, hrr.2⟩
theorem mv_cVwi {β : Type} {y : MethodName} {b : ByteArray} {mL n d' idx c ci : Nat} {rt : Option FieldType} {As stk : List Value} {T : u_T} {N : Nat} {g : Option (Int32 × mt_St)} {kf : Int32 → mt_St → Option β} {o : β} (hcal : mt_cal y b mL rt n) (hins : mt_ins y) (hml0 : mt_ml own idx y) (hr : mt_kd c = ci) (hci : ci < 7) (hcl : mt_cl[ci]? = some (y.cls, T, N)) (hn : As.length = n) (hD : d' + 1 ≤ d) (hst : stk = As.reverse ++ .ref (mt_adr (kG K) c) :: st) (hw8 : (st.map fun v => v.category).sum ≤ 8) (hd : decode cc pc = .ok (.invokevirtual idx, 3))
    (con : ∀ r σ1, g = some (r, σ1) → mt_Con (kl K) (kG K) y b mL rt d' (.ref (mt_adr (kG K) c) :: As) σ (some (.int r)) σ1) (kk : ∀ r σ1, mt_V K cc own nL d σ1 (pc + 3) lv (.int r :: st) (kf r σ1 = some o)) : mt_V K cc own nL d σ pc lv stk (mt_call g kf = some o) := by
  intro hP
  cases hg : g with
  | none => rw [hg] at hP; cases hP
  | some q => rw [hg] at hP; exact mv_cV0 hcal hins hml0 hr hci hcl hn hD hst hw8 hd (con q.1 q.2 hg) (kk q.1 q.2) hP
theorem mv_cVri {β : Type} {y : MethodName} {b : ByteArray} {mL n d' idx c ci : Nat} {rt : Option FieldType} {As stk : List Value} {T : u_T} {N : Nat} {g : Option Int32} {kf : Int32 → Option β} {o : β} (hcal : mt_cal y b mL rt n) (hins : mt_ins y) (hml0 : mt_ml own idx y) (hr : mt_kd c = ci) (hci : ci < 7) (hcl : mt_cl[ci]? = some (y.cls, T, N)) (hn : As.length = n) (hD : d' + 1 ≤ d) (hst : stk = As.reverse ++ .ref (mt_adr (kG K) c) :: st) (hw8 : (st.map fun v => v.category).sum ≤ 8) (hd : decode cc pc = .ok (.invokevirtual idx, 3))
    (con : ∀ r, g = some r → mt_Con (kl K) (kG K) y b mL rt d' (.ref (mt_adr (kG K) c) :: As) σ (some (.int r)) σ) (kk : ∀ r, mt_V K cc own nL d σ (pc + 3) lv (.int r :: st) (kf r = some o)) : mt_V K cc own nL d σ pc lv stk (mt_ask g kf = some o) := by
  intro hP
  cases hg : g with
  | none => rw [hg] at hP; cases hP
  | some q => rw [hg] at hP; exact mv_cV0 hcal hins hml0 hr hci hcl hn hD hst hw8 hd (con q hg) (kk q) hP
theorem mv_cVwl {β : Type} {y : MethodName} {b : ByteArray} {mL n d' idx c ci : Nat} {rt : Option FieldType} {As stk : List Value} {T : u_T} {N : Nat} {g : Option (Int64 × mt_St)} {kf : Int64 → mt_St → Option β} {o : β} (hcal : mt_cal y b mL rt n) (hins : mt_ins y) (hml0 : mt_ml own idx y) (hr : mt_kd c = ci) (hci : ci < 7) (hcl : mt_cl[ci]? = some (y.cls, T, N)) (hn : As.length = n) (hD : d' + 1 ≤ d) (hst : stk = As.reverse ++ .ref (mt_adr (kG K) c) :: st) (hw8 : (st.map fun v => v.category).sum ≤ 8) (hd : decode cc pc = .ok (.invokevirtual idx, 3))
    (con : ∀ r σ1, g = some (r, σ1) → mt_Con (kl K) (kG K) y b mL rt d' (.ref (mt_adr (kG K) c) :: As) σ (some (.long r)) σ1) (kk : ∀ r σ1, mt_V K cc own nL d σ1 (pc + 3) lv (.long r :: st) (kf r σ1 = some o)) : mt_V K cc own nL d σ pc lv stk (mt_call g kf = some o) := by
  intro hP
  cases hg : g with
  | none => rw [hg] at hP; cases hP
  | some q => rw [hg] at hP; exact mv_cV0 hcal hins hml0 hr hci hcl hn hD hst hw8 hd (con q.1 q.2 hg) (kk q.1 q.2) hP
theorem mv_cVrl {β : Type} {y : MethodName} {b : ByteArray} {mL n d' idx c ci : Nat} {rt : Option FieldType} {As stk : List Value} {T : u_T} {N : Nat} {g : Option Int64} {kf : Int64 → Option β} {o : β} (hcal : mt_cal y b mL rt n) (hins : mt_ins y) (hml0 : mt_ml own idx y) (hr : mt_kd c = ci) (hci : ci < 7) (hcl : mt_cl[ci]? = some (y.cls, T, N)) (hn : As.length = n) (hD : d' + 1 ≤ d) (hst : stk = As.reverse ++ .ref (mt_adr (kG K) c) :: st) (hw8 : (st.map fun v => v.category).sum ≤ 8) (hd : decode cc pc = .ok (.invokevirtual idx, 3))
    (con : ∀ r, g = some r → mt_Con (kl K) (kG K) y b mL rt d' (.ref (mt_adr (kG K) c) :: As) σ (some (.long r)) σ) (kk : ∀ r, mt_V K cc own nL d σ (pc + 3) lv (.long r :: st) (kf r = some o)) : mt_V K cc own nL d σ pc lv stk (mt_ask g kf = some o) := by
  intro hP
  cases hg : g with
  | none => rw [hg] at hP; cases hP
  | some q => rw [hg] at hP; exact mv_cV0 hcal hins hml0 hr hci hcl hn hD hst hw8 hd (con q hg) (kk q) hP
theorem mv_cVwv {β : Type} {y : MethodName} {b : ByteArray} {mL n d' idx c ci : Nat} {rt : Option FieldType} {As stk : List Value} {T : u_T} {N : Nat} {g : Option (Unit × mt_St)} {kf : Unit → mt_St → Option β} {o : β} (hcal : mt_cal y b mL rt n) (hins : mt_ins y) (hml0 : mt_ml own idx y) (hr : mt_kd c = ci) (hci : ci < 7) (hcl : mt_cl[ci]? = some (y.cls, T, N)) (hn : As.length = n) (hD : d' + 1 ≤ d) (hst : stk = As.reverse ++ .ref (mt_adr (kG K) c) :: st) (hw8 : (st.map fun v => v.category).sum ≤ 8) (hd : decode cc pc = .ok (.invokevirtual idx, 3))
    (con : ∀ r σ1, g = some (r, σ1) → mt_Con (kl K) (kG K) y b mL rt d' (.ref (mt_adr (kG K) c) :: As) σ (none) σ1) (kk : ∀ r σ1, mt_V K cc own nL d σ1 (pc + 3) lv (st) (kf r σ1 = some o)) : mt_V K cc own nL d σ pc lv stk (mt_call g kf = some o) := by
  intro hP
  cases hg : g with
  | none => rw [hg] at hP; cases hP
  | some q => rw [hg] at hP; exact mv_cV0 hcal hins hml0 hr hci hcl hn hD hst hw8 hd (con q.1 q.2 hg) (kk q.1 q.2) hP
theorem mv_cSwi {β : Type} {y : MethodName} {b : ByteArray} {mL n d' idx : Nat} {rt : Option FieldType} {As stk : List Value} {g : Option (Int32 × mt_St)} {kf : Int32 → mt_St → Option β} {o : β} (hcal : mt_cal y b mL rt n) (hsta : Cond.static y ∈ lw_g) (hml0 : mt_ml own idx y) (hn : As.length = n) (hD : d' + 1 ≤ d) (hst : stk = As.reverse ++ st) (hw8 : (st.map fun v => v.category).sum ≤ 8) (hd : decode cc pc = .ok (.invokestatic idx, 3))
    (con : ∀ r σ1, g = some (r, σ1) → mt_Con (kl K) (kG K) y b mL rt d' As σ (some (.int r)) σ1) (kk : ∀ r σ1, mt_V K cc own nL d σ1 (pc + 3) lv (.int r :: st) (kf r σ1 = some o)) : mt_V K cc own nL d σ pc lv stk (mt_call g kf = some o) := by
  intro hP
  cases hg : g with
  | none => rw [hg] at hP; cases hP
  | some q => rw [hg] at hP; exact mv_cS0 hcal hsta hml0 hn hD hst hw8 hd (con q.1 q.2 hg) (kk q.1 q.2) hP
theorem mv_cSri {β : Type} {y : MethodName} {b : ByteArray} {mL n d' idx : Nat} {rt : Option FieldType} {As stk : List Value} {g : Option Int32} {kf : Int32 → Option β} {o : β} (hcal : mt_cal y b mL rt n) (hsta : Cond.static y ∈ lw_g) (hml0 : mt_ml own idx y) (hn : As.length = n) (hD : d' + 1 ≤ d) (hst : stk = As.reverse ++ st) (hw8 : (st.map fun v => v.category).sum ≤ 8) (hd : decode cc pc = .ok (.invokestatic idx, 3))
    (con : ∀ r, g = some r → mt_Con (kl K) (kG K) y b mL rt d' As σ (some (.int r)) σ) (kk : ∀ r, mt_V K cc own nL d σ (pc + 3) lv (.int r :: st) (kf r = some o)) : mt_V K cc own nL d σ pc lv stk (mt_ask g kf = some o) := by
  intro hP
  cases hg : g with
  | none => rw [hg] at hP; cases hP
  | some q => rw [hg] at hP; exact mv_cS0 hcal hsta hml0 hn hD hst hw8 hd (con q hg) (kk q) hP
theorem mv_cSwl {β : Type} {y : MethodName} {b : ByteArray} {mL n d' idx : Nat} {rt : Option FieldType} {As stk : List Value} {g : Option (Int64 × mt_St)} {kf : Int64 → mt_St → Option β} {o : β} (hcal : mt_cal y b mL rt n) (hsta : Cond.static y ∈ lw_g) (hml0 : mt_ml own idx y) (hn : As.length = n) (hD : d' + 1 ≤ d) (hst : stk = As.reverse ++ st) (hw8 : (st.map fun v => v.category).sum ≤ 8) (hd : decode cc pc = .ok (.invokestatic idx, 3))
    (con : ∀ r σ1, g = some (r, σ1) → mt_Con (kl K) (kG K) y b mL rt d' As σ (some (.long r)) σ1) (kk : ∀ r σ1, mt_V K cc own nL d σ1 (pc + 3) lv (.long r :: st) (kf r σ1 = some o)) : mt_V K cc own nL d σ pc lv stk (mt_call g kf = some o) := by
  intro hP
  cases hg : g with
  | none => rw [hg] at hP; cases hP
  | some q => rw [hg] at hP; exact mv_cS0 hcal hsta hml0 hn hD hst hw8 hd (con q.1 q.2 hg) (kk q.1 q.2) hP
theorem mv_cSrl {β : Type} {y : MethodName} {b : ByteArray} {mL n d' idx : Nat} {rt : Option FieldType} {As stk : List Value} {g : Option Int64} {kf : Int64 → Option β} {o : β} (hcal : mt_cal y b mL rt n) (hsta : Cond.static y ∈ lw_g) (hml0 : mt_ml own idx y) (hn : As.length = n) (hD : d' + 1 ≤ d) (hst : stk = As.reverse ++ st) (hw8 : (st.map fun v => v.category).sum ≤ 8) (hd : decode cc pc = .ok (.invokestatic idx, 3))
    (con : ∀ r, g = some r → mt_Con (kl K) (kG K) y b mL rt d' As σ (some (.long r)) σ) (kk : ∀ r, mt_V K cc own nL d σ (pc + 3) lv (.long r :: st) (kf r = some o)) : mt_V K cc own nL d σ pc lv stk (mt_ask g kf = some o) := by
  intro hP
  cases hg : g with
  | none => rw [hg] at hP; cases hP
  | some q => rw [hg] at hP; exact mv_cS0 hcal hsta hml0 hn hD hst hw8 hd (con q hg) (kk q) hP
theorem mv_cSwv {β : Type} {y : MethodName} {b : ByteArray} {mL n d' idx : Nat} {rt : Option FieldType} {As stk : List Value} {g : Option (Unit × mt_St)} {kf : Unit → mt_St → Option β} {o : β} (hcal : mt_cal y b mL rt n) (hsta : Cond.static y ∈ lw_g) (hml0 : mt_ml own idx y) (hn : As.length = n) (hD : d' + 1 ≤ d) (hst : stk = As.reverse ++ st) (hw8 : (st.map fun v => v.category).sum ≤ 8) (hd : decode cc pc = .ok (.invokestatic idx, 3))
    (con : ∀ r σ1, g = some (r, σ1) → mt_Con (kl K) (kG K) y b mL rt d' As σ (none) σ1) (kk : ∀ r σ1, mt_V K cc own nL d σ1 (pc + 3) lv (st) (kf r σ1 = some o)) : mt_V K cc own nL d σ pc lv stk (mt_call g kf = some o) := by
  intro hP
  cases hg : g with
  | none => rw [hg] at hP; cases hP
  | some q => rw [hg] at hP; exact mv_cS0 hcal hsta hml0 hn hD hst hw8 hd (con q.1 q.2 hg) (kk q.1 q.2) hP
theorem mt_con {l : Launch} {G : mt_G} {y : MethodName} {b : ByteArray} {mL d : Nat} {rt : Option FieldType} {As : List Value} {o : Option Value} {σ' : mt_St} (hy : plainName y.cls = true) (hlen : (lg_sl As).length ≤ mL) (body : ∀ K, kl K = l → kG K = G → mt_R K rt o σ' → mt_V K b y.cls mL d σ 0 (lv_args 0 As) [] True) : mt_Con l G y b mL rt d As σ o σ' := by
  refine Met.ofW (cc := b) (maxL := mL) (ret := rt) hy rfl ?_
  intro p e s m args below meth c s₁ B hml hv
  obtain ⟨rfl, hP, hK⟩ := hv
  have hts := atoms_spec (ws := Cond.code y b mL rt :: lw_g) B.pre
  have h := body (p, l, e, mt_rm d, s, m, As.toArray, below, meth, c, 0, 0, G, MQ below (mt_Qc G o σ') As.toArray s 0 0 (mt_A G)) rfl rfl ⟨rfl, B.returns, rfl, rfl⟩ trivial ⟨B.exec, B.bytes, hml, findClass_of_methodNamed B.named, fun w hw => hts w (List.mem_cons_of_mem _ hw), hK, ⟨Nat.le_refl _, Nat.le_refl _⟩, ⟨Nat.le_refl _, Nat.le_refl _⟩, B.notSynchronized⟩ s.heap [] _ hP va_S.rf (lv_entry As hlen)
  rw [lg_entry_eq]
  exact h
end MH
