/-! the picture of all cells: 68 cells at fixed places; their numbers in one function -/
abbrev mt_St : Type := Nat → Nat → Int32
def mt_row (σ : mt_St) (c : Nat) (f : Nat → Int32) : mt_St := fun c' => if c' = c then f else σ c'
def mt_up (σ : mt_St) (c k : Nat) (v : Int32) : mt_St := mt_row σ c (upd (σ c) k v)
def mt_bnd {α β : Type} (a : α) (k : α → β) : β := k a
def mt_chk {β : Type} (b : Bool) (k : Option β) : Option β := if b = true then k else none
def mt_call {α β : Type} (g : Option (α × mt_St)) (k : α → mt_St → Option β) : Option β := match g with
  | none => none
  | some q => k q.1 q.2
def mt_ask {α β : Type} (g : Option α) (k : α → Option β) : Option β := match g with
  | none => none
  | some q => k q
def mt_in (i : Int32) (n : Nat) : Bool := decide (0 ≤ i.toInt) && decide (i.toInt < n)
def mt_b01 (v : Int32) : Bool := decide (v = 0) || decide (v = 1)
theorem mt_row_s (σ : mt_St) (c : Nat) (f : Nat → Int32) : mt_row σ c f c = f := by simp [mt_row]
theorem mt_row_n {σ : mt_St} {c j : Nat} {f : Nat → Int32} (h : j ≠ c) : mt_row σ c f j = σ j := by simp [mt_row, h]
theorem mt_in_iff {i : Int32} {n : Nat} : mt_in i n = true ↔ vp_in i n := by
  rw [vp_in_iff]; simp [mt_in]
def mt_kds : List Nat := [5, 4, 7, 9, 7, 3, 3, 3, 3, 3, 3, 3, 3, 4, 7, 9, 7, 3, 3, 3, 3, 3, 3, 3, 3, 4, 7, 9, 7, 3, 3, 3, 3, 3, 3, 3, 3, 3, 7, 2, 7, 7, 7, 7, 0, 8, 10, 1, 1, 1, 1, 7, 7, 7, 7, 7, 6, 7, 7, 7, 7, 7, 11, 7, 7, 7, 7, 7]
def mt_lns : List Nat := [0, 0, 6, 8, 10, 0, 0, 0, 0, 0, 0, 0, 0, 0, 6, 8, 10, 0, 0, 0, 0, 0, 0, 0, 0, 0, 6, 8, 10, 0, 0, 0, 0, 0, 0, 0, 0, 0, 200, 0, 192, 192, 8, 8, 0, 120, 4, 0, 0, 0, 0, 40, 40, 40, 40, 7, 0, 86, 86, 86, 8, 120, 7, 720, 4, 4, 160, 40]
def mt_kd (i : Nat) : Nat := mt_kds.getD i 12
def mt_ln (i : Nat) : Nat := mt_lns.getD i 0
theorem mt_kd_lt {i : Nat} (h : mt_kd i ≠ 12) : i < 68 := by
  rcases Nat.lt_or_ge i 68 with q | q
  · exact q
  · exact absurd (by simp [mt_kd, List.getD_eq_getElem?_getD, List.getElem?_eq_none (show mt_kds.length ≤ i from q)]) h
abbrev mt_G : Type := va_G × (Nat → Nat) × (Nat → ClassId) × (Nat → Nat) × (Nat → Nat) × Nat
def mt_D (G : mt_G) : va_G := G.1
def mt_adr (G : mt_G) : Nat → Nat := G.2.1
def mt_cA (G : mt_G) : Nat → ClassId := G.2.2.1
def mt_aK (G : mt_G) : Nat → Nat := G.2.2.2.1
def mt_aV (G : mt_G) : Nat → Nat := G.2.2.2.2.1
def mt_tA (G : mt_G) : Nat := G.2.2.2.2.2
def mt_E (G : mt_G) (f : Nat → Int32) (i : Nat) : va_E := match mt_kd i with
  | 0 => .inr (0, [.ref (mt_adr G (i + 1)), .int (f 1), .int (f 2), .int (f 3), .int (f 4), .int (f 5)])
  | 1 => .inr (1, [.int (f 0), .int (f 1), .ref (mt_adr G (i + 4))])
  | 2 => .inr (2, [.ref (mt_adr G (i + 1)), .ref (mt_adr G (i + 2)), .int (f 2)])
  | 3 => .inr (3, [.int (f 0), .int (f 1), .int (f 2), .int (f 3), .int (f 4), .int (f 5), .int (f 6), .int (f 7)])
  | 4 => .inr (4, [.int (f 0), .int (f 1), .ref (mt_adr G (i + 1)), .int (f 3), .int (f 4), .int (f 5), .ref (mt_adr G (i + 2)), .int (f 7), .ref (mt_adr G (i + 3))])
  | 5 => .inr (5, [.ref (mt_adr G 1), .ref (mt_adr G 13), .int (f 2), .ref (mt_adr G 25), .ref (mt_adr G 37), .ref (mt_adr G 38), .ref (mt_adr G 39), .ref (mt_adr G 42), .ref (mt_adr G 43), .ref (mt_adr G 44), .ref (mt_adr G 46), .ref (mt_adr G 55)])
  | 6 => .inr (6, [.ref (mt_adr G 57), .ref (mt_adr G 58), .ref (mt_adr G 59), .int (f 3), .ref (mt_adr G 60), .int (f 5), .ref (mt_adr G 61), .int (f 7), .int (f 8), .int (f 9), .int (f 10), .int (f 11), .int (f 12), .ref (mt_adr G 62), .ref (mt_adr G 63), .int (f 15), .int (f 16), .ref (mt_adr G 64), .ref (mt_adr G 65), .ref (mt_adr G 66), .ref (mt_adr G 67)])
  | 7 => .inl (mt_cA G 7, mt_ln i, .inl f)
  | 8 => .inl (mt_cA G 8, mt_ln i, .inl f)
  | 9 => .inl (mt_cA G 9, mt_ln i, .inr (.inr (.inr (.inr fun t => some (mt_adr G (i + 2 + t))))))
  | 10 => .inl (mt_cA G 10, mt_ln i, .inr (.inr (.inr (.inr fun t => some (mt_adr G (i + 1 + t))))))
  | 11 => .inl (mt_cA G 11, mt_ln i, .inr (.inr (.inr (.inr fun t => some (mt_aK G t)))))
  | _ => .inl (mt_cA G 7, 0, .inl f)
def mt_tys (G : mt_G) : List (ClassId × FieldType) := [(mt_cA G 7, .int), (mt_cA G 8, .byte), (mt_cA G 9, .object "MarkTreaties$Treaty"), (mt_cA G 10, .object "MarkTreaties$Sheet"), (mt_cA G 11, .object "java/lang/String")]
def mt_ws (G : mt_G) (σ : mt_St) : va_W := (List.range 68).map (fun i => (mt_adr G i, mt_E G (σ i) i))
theorem mt_ws_at {G : mt_G} {σ : mt_St} {i : Nat} (h : i < 68) : (mt_ws G σ)[i]? = some (mt_adr G i, mt_E G (σ i) i) := by
  simp [mt_ws, h]
theorem mt_ws_lt {G : mt_G} {σ : mt_St} {i : Nat} {q : Nat × va_E} (h : (mt_ws G σ)[i]? = some q) : i < 68 ∧ q = (mt_adr G i, mt_E G (σ i) i) := by
  have hl : i < 68 := by
    have := (List.getElem?_eq_some_iff.mp h).1
    simpa [mt_ws] using this
  rw [mt_ws_at hl] at h
  exact ⟨hl, (Option.some.inj h).symm⟩
theorem mt_ws_set {G : mt_G} {σ σ' : mt_St} {i : Nat} {e : va_E} (h : i < 68) (he : mt_E G (σ' i) i = e) (ho : ∀ j, j ≠ i → σ' j = σ j) : (mt_ws G σ).set i (mt_adr G i, e) = mt_ws G σ' := by
  apply List.ext_getElem?
  intro j
  by_cases hj : j = i
  · subst hj
    rw [List.getElem?_set_self (by simp [mt_ws, h]), mt_ws_at h, he]
  · rw [List.getElem?_set_ne (Ne.symm hj)]
    by_cases hl : j < 68
    · rw [mt_ws_at hl, mt_ws_at hl, ho j hj]
    · rw [List.getElem?_eq_none (by simp [mt_ws]; omega), List.getElem?_eq_none (by simp [mt_ws]; omega)]
def mt_A (G : mt_G) : Nat → Prop := fun q => ∃ i, i < 68 ∧ q = mt_adr G i
def mt_J (G : mt_G) : Prop := ∀ i j, i < 68 → j < 68 → mt_adr G i = mt_adr G j → i = j
theorem mt_dis {G : mt_G} (hJ : mt_J G) (σ : mt_St) : va_D (mt_A G) (mt_ws G σ) := by
  refine ⟨fun i j p q hi hj hpq => ?_, fun k q hk => ?_⟩
  · obtain ⟨h1, rfl⟩ := mt_ws_lt hi
    obtain ⟨h2, rfl⟩ := mt_ws_lt hj
    exact hJ i j h1 h2 hpq
  · obtain ⟨h1, rfl⟩ := mt_ws_lt hk
    exact ⟨k, h1, rfl⟩
def mt_ab (j : Nat) : Int32 := [-1, 0, 0, 2, 3, 0, 1].getD j 0
def mt_sl : List Nat := [6, 5, 5, 5, 7, 5, 5, 4, 4, 4, 4, 2, 5]
def mt_sb : List (List Int32) := [[116, 114, 101, 97, 116, 121], [112, 101, 97, 99, 101], [116, 114, 97, 100, 101], [108, 101, 97, 115, 101], [100, 121, 110, 97, 115, 116, 121], [98, 108, 97, 110, 107], [116, 114, 117, 99, 101], [109, 97, 114, 107], [104, 101, 108, 100], [116, 111, 114, 110], [121, 97, 114, 100], [117, 112], [101, 118, 101, 110, 116]]
def mt_tx : List (String × Nat × String × Nat) := [("MarkTreaties$Reader", 106, "treaty", 0), ("MarkTreaties$Reader", 108, "peace", 1), ("MarkTreaties$Reader", 110, "trade", 2), ("MarkTreaties$Reader", 112, "lease", 3), ("MarkTreaties$Reader", 114, "dynasty", 4), ("MarkTreaties$Reader", 116, "blank", 5), ("MarkTreaties$Reader", 118, "truce", 6), ("MarkTreaties$Reader", 91, "mark", 7), ("MarkTreaties$Reader", 97, "held", 8), ("MarkTreaties$Reader", 101, "torn", 9), ("MarkTreaties$Reader", 49, "yard", 10), ("MarkTreaties$Reader", 63, "up", 11), ("MarkTreaties$Reader", 67, "event", 12), ("MarkTreatiesModel", 27, "treaty", 0), ("MarkTreatiesModel", 29, "peace", 1), ("MarkTreatiesModel", 31, "trade", 2), ("MarkTreatiesModel", 33, "lease", 3), ("MarkTreatiesModel", 35, "dynasty", 4), ("MarkTreatiesModel", 37, "blank", 5), ("MarkTreatiesModel", 39, "truce", 6), ("MarkTreatiesModel", 274, "mark", 7), ("MarkTreatiesModel", 279, "held", 8), ("MarkTreatiesModel", 281, "torn", 9), ("MarkTreatiesModel", 290, "yard", 10), ("MarkTreatiesModel", 292, "up", 11), ("MarkTreatiesModel", 294, "event", 12)]
/-- the text constants -/
def mt_vS (aK aV : Nat → Nat) (A : Nat → Prop) (U : State) (H : Heap) : Prop := ∀ i : Nat, i < 13 → va_O "java/lang/String" (aK i) A U H ∧ va_OF "java/lang/String" "coder" "B" (.int 0) (aK i) A U H ∧ va_OF "java/lang/String" "value" "[B" (.ref (aV i)) (aK i) A U H ∧ va_T .byte (aV i) (mt_sl.getD i 0) (fun j => .int ((mt_sb.getD i []).getD j 0)) A U H
theorem mt_vS.moved {aK aV : Nat → Nat} {A : Nat → Prop} {u U : State} {H : Heap} (hvm : u.vm.Alike U.vm) (h : mt_vS aK aV A u H) : mt_vS aK aV A U H := fun i hi => ⟨va_O.moved hvm (h i hi).1, va_OF.moved hvm (h i hi).2.1, va_OF.moved hvm (h i hi).2.2.1, va_T.moved hvm (h i hi).2.2.2⟩
theorem mt_vS.kept {aK aV : Nat → Nat} {A : Nat → Prop} {U : State} {H H1 : Heap} (h : mt_vS aK aV A U H) (hq : ∀ a : Nat, a < H.size → ¬ A a → H1[a]? = H[a]?) : mt_vS aK aV A U H1 := fun i hi => ⟨(h i hi).1.kept hq, (h i hi).2.1.kept hq, (h i hi).2.2.1.kept hq, (h i hi).2.2.2.kept hq⟩
theorem mt_vS.narrow {aK aV : Nat → Nat} {A B : Nat → Prop} {U : State} {H : Heap} (h : mt_vS aK aV A U H) (hAB : ∀ q, B q → A q) : mt_vS aK aV B U H := fun i hi => ⟨(h i hi).1.narrow hAB, (h i hi).2.1.narrow hAB, (h i hi).2.2.1.narrow hAB, (h i hi).2.2.2.narrow hAB⟩
theorem mt_vrecv {aK aV : Nat → Nat} {A : Nat → Prop} {s : State} {H : Heap} {locs : List Loc} {i : Nat} (hE : mt_vS aK aV A s s.heap) (hi : i < 13) (hS : va_S A s.heap H locs) : ∃ cell : Cell, H[aK i]? = some cell ∧ cell.vm.isStatics = false ∧ s.vm.findClass "java/lang/String" = some cell.cls := by
  obtain ⟨cell, h1, h2, h3, -⟩ := (hE i hi).1.kept hS.2.1
  exact ⟨cell, h1, h2, h3⟩
/-- what the tables and the cells that nobody writes say -/
def mt_K (G : mt_G) (U : State) : Prop := va_K (mt_D G) mt_cl (mt_tys G) U ∧ mt_J G ∧ va_Z "MarkTreaties" "ABOVE" "[I" (.ref (mt_tA G)) (mt_A G) U U.heap ∧ va_T .int (mt_tA G) 7 (fun j => .int (mt_ab j)) (mt_A G) U U.heap ∧ va_Z "java/lang/String" "COMPACT_STRINGS" "Z" (.int 1) (mt_A G) U U.heap ∧ va_Zq "jdk/internal/util/Preconditions" "SIOOBE_FORMATTER" "Ljava/util/function/BiFunction;" (mt_A G) U U.heap ∧ mt_vS (mt_aK G) (mt_aV G) (mt_A G) U U.heap ∧ (∀ q ∈ mt_tx, vk_R q.1 q.2.1 q.2.2.1 (mt_aK G q.2.2.2) U) ∧ ∀ w ∈ lw_n, va_Nw w U
theorem lw_nw {s U : State} (hW : s.WarmedH U.vm) (w : Cond) (hw : w ∈ lw_n) (h : va_Nw w s) : va_Nw w U := by
  have h2 := (List.mem_filter.mp hw).2
  cases w <;> first | exact va_Nw.warmF hW h | exact va_Nw.warmM hW h | cases h2
theorem lw_nt (w : Cond) (hw : w ∈ lw_n) : w.onTables = true := by
  have h2 := (List.mem_filter.mp hw).2
  cases w <;> first | rfl | cases h2
theorem mt_K.blind {G : mt_G} {U : State} (g : JFrame) (mk : MethodId) (a : Array Value) (h : mt_K G U) : mt_K G (U.calling g mk a) := by
  obtain ⟨h1, h2, h3, h4, h5, h6, h7, h8, h9⟩ := h
  exact ⟨va_K.moved (u := U) (U := U.calling g mk a) (Vm.Alike.refl U.vm) h1, h2, va_Z.moved (u := U) (U := U.calling g mk a) (Vm.Alike.refl U.vm) h3, va_T.moved (u := U) (U := U.calling g mk a) (Vm.Alike.refl U.vm) h4, va_Z.moved (u := U) (U := U.calling g mk a) (Vm.Alike.refl U.vm) h5, va_Zq.moved (u := U) (U := U.calling g mk a) (Vm.Alike.refl U.vm) h6, mt_vS.moved (u := U) (U := U.calling g mk a) (Vm.Alike.refl U.vm) h7, fun q hq => vk_R.same (u := U) (U := U.calling g mk a) rfl (h8 q hq), fun w hw => va_Nw.same (lw_nt w hw) (u := U) (U := U.calling g mk a) rfl (h9 w hw)⟩
theorem mt_K.go {G : mt_G} {s U : State} {locs : List Loc} (hW : s.WarmedH U.vm) (hS : va_S (mt_A G) s.heap U.heap locs) (h : mt_K G s) : mt_K G U := by
  obtain ⟨h1, h2, h3, h4, h5, h6, h7, h8, h9⟩ := h
  exact ⟨va_K.moved hW.alike h1, h2, (va_Z.moved hW.alike h3).kept hS.2.1, (va_T.moved hW.alike h4).kept hS.2.1, (va_Z.moved hW.alike h5).kept hS.2.1, (va_Zq.moved hW.alike h6).kept hS.2.1, (mt_vS.moved hW.alike h7).kept hS.2.1, fun q hq => vk_R.warm hW (h8 q hq), fun w hw => lw_nw hW w hw (h9 w hw)⟩
/-! contracts -/
def mt_rm (d : Nat) : Room := { frames := d, cells := 0, slots := 0, locals := 36 * d }
def mt_Qc (G : mt_G) (o : Option Value) (σ' : mt_St) : Array Value → State → Outcome → State → Prop := fun _ st oc t => oc = .returned o ∧ va_P (mt_D G) mt_cl (mt_ws G σ') t.heap ∧ va_F (mt_A G) st t
def mt_Pc (G : mt_G) (σ : mt_St) (As : List Value) : Array Value → State → Prop := va_Pc As (fun U => va_P (mt_D G) mt_cl (mt_ws G σ) U.heap ∧ mt_K G U)
def mt_Con (l : Launch) (G : mt_G) (y : MethodName) (b : ByteArray) (mL : Nat) (rt : Option FieldType) (d : Nat) (As : List Value) (σ : mt_St) (o : Option Value) (σ' : mt_St) : Prop :=
  Met l y (Cond.code y b mL rt :: lw_g) (mt_rm d) (mt_Pc G σ As) (mt_Qc G o σ') 0 0 (mt_A G)
/-! the context of a walk -/
abbrev mt_C : Type := Program × Launch × Env × Room × State × MethodId × Array Value × List Frame × Method × Code × Nat × Nat × mt_G × (State → Prop)
def kp (K : mt_C) : Program := K.1
def kl (K : mt_C) : Launch := K.2.1
def ke (K : mt_C) : Env := K.2.2.1
def kR (K : mt_C) : Room := K.2.2.2.1
def ks (K : mt_C) : State := K.2.2.2.2.1
def km (K : mt_C) : MethodId := K.2.2.2.2.2.1
def ka (K : mt_C) : Array Value := K.2.2.2.2.2.2.1
def kb (K : mt_C) : List Frame := K.2.2.2.2.2.2.2.1
def kt (K : mt_C) : Method := K.2.2.2.2.2.2.2.2.1
def kc (K : mt_C) : Code := K.2.2.2.2.2.2.2.2.2.1
def kn (K : mt_C) : Nat := K.2.2.2.2.2.2.2.2.2.2.1
def kz (K : mt_C) : Nat := K.2.2.2.2.2.2.2.2.2.2.2.1
def kG (K : mt_C) : mt_G := K.2.2.2.2.2.2.2.2.2.2.2.2.1
def kQ (K : mt_C) : State → Prop := K.2.2.2.2.2.2.2.2.2.2.2.2.2
def mt_X (K : mt_C) (cc : ByteArray) (own : String) (nL d : Nat) : Prop :=
  (kp K).tables.exec = Jvm.exec ∧ (kc K).code = cc ∧ (kc K).maxLocals = nL ∧ (ks K).vm.findClass own = some (km K).cls ∧ (∀ w ∈ lw_g, w.before (ka K) (ks K) = true) ∧ mt_K (kG K) (ks K) ∧ (d ≤ (kR K).frames ∧ 36 * d ≤ (kR K).locals) ∧ (kn K ≤ (kR K).cells ∧ kz K ≤ (kR K).slots) ∧ (kt K).locks = false
def mt_W (K : mt_C) (H : Heap) (locs : List Loc) (g : JFrame) : Prop := W (kp K) (kl K) (ke K) (kR K) (ks K) (km K) (ka K) (kb K) (kt K) (kc K) H locs (kn K) (kz K) (kQ K) g
def mt_V (K : mt_C) (cc : ByteArray) (own : String) (nL d : Nat) (σ : mt_St) (pc : Nat) (lv : List (Nat × Value)) (st : List Value) (P : Prop) : Prop :=
  P → mt_X K cc own nL d → ∀ (H : Heap) (locs : List Loc) (ls : Array Slot), va_P (mt_D (kG K)) mt_cl (mt_ws (kG K) σ) H → va_S (mt_A (kG K)) (ks K).heap H locs → lv_has ls nL lv → mt_W K H locs (F0 (km K) pc ls st)
/-- what a walk that returns owes -/
def mt_R (K : mt_C) (rt : Option FieldType) (o : Option Value) (σ' : mt_St) : Prop :=
  kQ K = MQ (kb K) (mt_Qc (kG K) o σ') (ka K) (ks K) 0 0 (mt_A (kG K)) ∧ (kt K).sig.returnType = rt ∧ kn K = 0 ∧ kz K = 0
section MV
variable {K : mt_C} {cc : ByteArray} {own : String} {nL d : Nat} {σ : mt_St} {pc : Nat} {lv : List (Nat × Value)} {st : List Value} {P : Prop}
theorem mv_iconst {n : Int} {v : Int32} (hd : decode cc pc = .ok (.iconst n, 1)) (hv : Int32.ofInt n = v) (k : mt_V K cc own nL d σ (pc + 1) lv (.int v :: st) P) : mt_V K cc own nL d σ pc lv st P :=
  fun hP hX H locs ls h1 h2 hl => lv_iconst hX.1 hX.2.1 hd hv (k hP hX H locs ls h1 h2 hl)
theorem mv_bipush {n : Int} {v : Int32} (hd : decode cc pc = .ok (.bipush n, 2)) (hv : (Int8.ofInt n).toInt32 = v) (k : mt_V K cc own nL d σ (pc + 2) lv (.int v :: st) P) : mt_V K cc own nL d σ pc lv st P :=
  fun hP hX H locs ls h1 h2 hl => lv_bipush hX.1 hX.2.1 hd hv (k hP hX H locs ls h1 h2 hl)
theorem mv_sipush {n : Int} {v : Int32} (hd : decode cc pc = .ok (.sipush n, 3)) (hv : (Int16.ofInt n).toInt32 = v) (k : mt_V K cc own nL d σ (pc + 3) lv (.int v :: st) P) : mt_V K cc own nL d σ pc lv st P :=
  fun hP hX H locs ls h1 h2 hl => lv_sipush hX.1 hX.2.1 hd hv (k hP hX H locs ls h1 h2 hl)
theorem mv_lconst {n : Fin 2} {v : Int64} (hd : decode cc pc = .ok (.lconst n, 1)) (hv : Int64.ofNat (n : Nat) = v) (k : mt_V K cc own nL d σ (pc + 1) lv (.long v :: st) P) : mt_V K cc own nL d σ pc lv st P :=
  fun hP hX H locs ls h1 h2 hl => lv_lconst hX.1 hX.2.1 hd hv (k hP hX H locs ls h1 h2 hl)
theorem mv_ldc {i : Nat} {v : Int32} (hw : Cond.constant own i v ∈ lw_g) (hd : decode cc pc = .ok (.ldc i, 2)) (k : mt_V K cc own nL d σ (pc + 2) lv (.int v :: st) P) : mt_V K cc own nL d σ pc lv st P :=
  fun hP hX H locs ls h1 h2 hl => lv_ldc hX.1 hX.2.1 hX.2.2.2.1 (hX.2.2.2.2.1 _ hw) hd (k hP hX H locs ls h1 h2 hl)
theorem mv_ldcw {i : Nat} {v : Int32} (hw : Cond.constant own i v ∈ lw_g) (hd : decode cc pc = .ok (.ldc_w i, 3)) (k : mt_V K cc own nL d σ (pc + 3) lv (.int v :: st) P) : mt_V K cc own nL d σ pc lv st P :=
  fun hP hX H locs ls h1 h2 hl => lv_ldcw hX.1 hX.2.1 hX.2.2.2.1 (hX.2.2.2.2.1 _ hw) hd (k hP hX H locs ls h1 h2 hl)
theorem mv_ldc2 {i : Nat} {v : Int64} (hw : Cond.constantLong own i v ∈ lw_g) (hd : decode cc pc = .ok (.ldc2_w i, 3)) (k : mt_V K cc own nL d σ (pc + 3) lv (.long v :: st) P) : mt_V K cc own nL d σ pc lv st P :=
  fun hP hX H locs ls h1 h2 hl => lv_ldc2 hX.1 hX.2.1 hX.2.2.2.1 (hX.2.2.2.2.1 _ hw) hd (k hP hX H locs ls h1 h2 hl)
theorem mv_iload_n {q : Fin 4} {i : Nat} {x : Int32} (k0 : Nat) (hd : decode cc pc = .ok (.iload_n q, 1)) (hi : (q : Nat) = i) (hk : lv[k0]? = some (i, .int x)) (k : mt_V K cc own nL d σ (pc + 1) lv (.int x :: st) P) : mt_V K cc own nL d σ pc lv st P :=
  fun hP hX H locs ls h1 h2 hl => lv_iload_n hX.1 hX.2.1 hd hi (lv_at hl k0 hk) (k hP hX H locs ls h1 h2 hl)
theorem mv_iload {i : Nat} {x : Int32} (k0 : Nat) (hd : decode cc pc = .ok (.iload i, 2)) (hk : lv[k0]? = some (i, .int x)) (k : mt_V K cc own nL d σ (pc + 2) lv (.int x :: st) P) : mt_V K cc own nL d σ pc lv st P :=
  fun hP hX H locs ls h1 h2 hl => lv_iload hX.1 hX.2.1 hd (lv_at hl k0 hk) (k hP hX H locs ls h1 h2 hl)
theorem mv_lload_n {q : Fin 4} {i : Nat} {x : Int64} (k0 : Nat) (hd : decode cc pc = .ok (.lload_n q, 1)) (hi : (q : Nat) = i) (hk : lv[k0]? = some (i, .long x)) (k : mt_V K cc own nL d σ (pc + 1) lv (.long x :: st) P) : mt_V K cc own nL d σ pc lv st P :=
  fun hP hX H locs ls h1 h2 hl => lv_lload_n hX.1 hX.2.1 hd hi (lv_at hl k0 hk) (k hP hX H locs ls h1 h2 hl)
theorem mv_lload {i : Nat} {x : Int64} (k0 : Nat) (hd : decode cc pc = .ok (.lload i, 2)) (hk : lv[k0]? = some (i, .long x)) (k : mt_V K cc own nL d σ (pc + 2) lv (.long x :: st) P) : mt_V K cc own nL d σ pc lv st P :=
  fun hP hX H locs ls h1 h2 hl => lv_lload hX.1 hX.2.1 hd (lv_at hl k0 hk) (k hP hX H locs ls h1 h2 hl)
theorem mv_aload_n {q : Fin 4} {i : Nat} {x : Nat} (k0 : Nat) (hd : decode cc pc = .ok (.aload_n q, 1)) (hi : (q : Nat) = i) (hk : lv[k0]? = some (i, .ref x)) (k : mt_V K cc own nL d σ (pc + 1) lv (.ref x :: st) P) : mt_V K cc own nL d σ pc lv st P :=
  fun hP hX H locs ls h1 h2 hl => lv_aload_n hX.1 hX.2.1 hd hi (lv_at hl k0 hk) (k hP hX H locs ls h1 h2 hl)
theorem mv_aload {i : Nat} {x : Nat} (k0 : Nat) (hd : decode cc pc = .ok (.aload i, 2)) (hk : lv[k0]? = some (i, .ref x)) (k : mt_V K cc own nL d σ (pc + 2) lv (.ref x :: st) P) : mt_V K cc own nL d σ pc lv st P :=
  fun hP hX H locs ls h1 h2 hl => lv_aload hX.1 hX.2.1 hd (lv_at hl k0 hk) (k hP hX H locs ls h1 h2 hl)
theorem mv_sub {lv' : List (Nat × Value)} (ks : List Nat) (hl0 : lv_pick lv ks = lv') (k : mt_V K cc own nL d σ pc lv' st P) : mt_V K cc own nL d σ pc lv st P :=
  fun hP hX H locs ls h1 h2 hl => k hP hX H locs ls h1 h2 (lv_sub hl ks hl0)
theorem mv_istore_n {q : Fin 4} {i : Nat} {x : Int32} {lv' : List (Nat × Value)} (ks : List Nat) (hd : decode cc pc = .ok (.istore_n q, 1)) (hi : (q : Nat) = i) (hn : i < nL) (hl0 : lv_pick ((i, Value.int x) :: lv.filter (fun q => !(q.1 == i) && !(q.1 + 1 == i && q.2.category == 2))) ks = lv') (k : mt_V K cc own nL d σ (pc + 1) lv' st P) : mt_V K cc own nL d σ pc lv (.int x :: st) P :=
  fun hP hX H locs ls h1 h2 hl => lv_istore_n hX.1 hX.2.1 hd hi hl hn rfl (fun ls hl => k hP hX H locs ls h1 h2 (lv_sub hl ks hl0))
theorem mv_istore {i : Nat} {x : Int32} {lv' : List (Nat × Value)} (ks : List Nat) (hd : decode cc pc = .ok (.istore i, 2)) (hn : i < nL) (hl0 : lv_pick ((i, Value.int x) :: lv.filter (fun q => !(q.1 == i) && !(q.1 + 1 == i && q.2.category == 2))) ks = lv') (k : mt_V K cc own nL d σ (pc + 2) lv' st P) : mt_V K cc own nL d σ pc lv (.int x :: st) P :=
  fun hP hX H locs ls h1 h2 hl => lv_istore hX.1 hX.2.1 hd hl hn rfl (fun ls hl => k hP hX H locs ls h1 h2 (lv_sub hl ks hl0))
theorem mv_astore_n {q : Fin 4} {i : Nat} {x : Nat} {lv' : List (Nat × Value)} (ks : List Nat) (hd : decode cc pc = .ok (.astore_n q, 1)) (hi : (q : Nat) = i) (hn : i < nL) (hl0 : lv_pick ((i, Value.ref x) :: lv.filter (fun q => !(q.1 == i) && !(q.1 + 1 == i && q.2.category == 2))) ks = lv') (k : mt_V K cc own nL d σ (pc + 1) lv' st P) : mt_V K cc own nL d σ pc lv (.ref x :: st) P :=
  fun hP hX H locs ls h1 h2 hl => lv_astore_n hX.1 hX.2.1 hd hi hl hn rfl (fun ls hl => k hP hX H locs ls h1 h2 (lv_sub hl ks hl0))
theorem mv_astore {i : Nat} {x : Nat} {lv' : List (Nat × Value)} (ks : List Nat) (hd : decode cc pc = .ok (.astore i, 2)) (hn : i < nL) (hl0 : lv_pick ((i, Value.ref x) :: lv.filter (fun q => !(q.1 == i) && !(q.1 + 1 == i && q.2.category == 2))) ks = lv') (k : mt_V K cc own nL d σ (pc + 2) lv' st P) : mt_V K cc own nL d σ pc lv (.ref x :: st) P :=
  fun hP hX H locs ls h1 h2 hl => lv_astore hX.1 hX.2.1 hd hl hn rfl (fun ls hl => k hP hX H locs ls h1 h2 (lv_sub hl ks hl0))
theorem mv_lstore_n {q : Fin 4} {i : Nat} {x : Int64} {lv' : List (Nat × Value)} (ks : List Nat) (hd : decode cc pc = .ok (.lstore_n q, 1)) (hi : (q : Nat) = i) (hn : i + 1 < nL) (hl0 : lv_pick ((i, Value.long x) :: lv.filter (fun q => !(q.1 == i) && (!(q.1 == i + 1) && !(q.1 + 1 == i && q.2.category == 2)))) ks = lv') (k : mt_V K cc own nL d σ (pc + 1) lv' st P) : mt_V K cc own nL d σ pc lv (.long x :: st) P :=
  fun hP hX H locs ls h1 h2 hl => lv_lstore_n hX.1 hX.2.1 hd hi hl hn rfl (fun ls hl => k hP hX H locs ls h1 h2 (lv_sub hl ks hl0))
theorem mv_lstore {i : Nat} {x : Int64} {lv' : List (Nat × Value)} (ks : List Nat) (hd : decode cc pc = .ok (.lstore i, 2)) (hn : i + 1 < nL) (hl0 : lv_pick ((i, Value.long x) :: lv.filter (fun q => !(q.1 == i) && (!(q.1 == i + 1) && !(q.1 + 1 == i && q.2.category == 2)))) ks = lv') (k : mt_V K cc own nL d σ (pc + 2) lv' st P) : mt_V K cc own nL d σ pc lv (.long x :: st) P :=
  fun hP hX H locs ls h1 h2 hl => lv_lstore hX.1 hX.2.1 hd hl hn rfl (fun ls hl => k hP hX H locs ls h1 h2 (lv_sub hl ks hl0))
theorem mv_iinc {i k0 : Nat} {n : Int} {x v : Int32} {lv' : List (Nat × Value)} (ks : List Nat) (hd : decode cc pc = .ok (.iinc i n, 3)) (hk : lv[k0]? = some (i, .int x)) (hv : x + Int32.ofInt n = v) (hn : i < nL) (hl0 : lv_pick ((i, Value.int v) :: lv.filter (fun q => !(q.1 == i) && !(q.1 + 1 == i && q.2.category == 2))) ks = lv') (k : mt_V K cc own nL d σ (pc + 3) lv' st P) : mt_V K cc own nL d σ pc lv st P :=
  fun hP hX H locs ls h1 h2 hl => lv_iinc hX.1 hX.2.1 hd hl hk hv hn rfl (fun ls hl => k hP hX H locs ls h1 h2 (lv_sub hl ks hl0))
theorem mv_iadd {x y : Int32} (hd : decode cc pc = .ok (.iadd, 1)) (k : mt_V K cc own nL d σ (pc + 1) lv (.int (x + y) :: st) P) : mt_V K cc own nL d σ pc lv (.int y :: .int x :: st) P :=
  fun hP hX H locs ls h1 h2 hl => lv_iadd hX.1 hX.2.1 hd (k hP hX H locs ls h1 h2 hl)
theorem mv_isub {x y : Int32} (hd : decode cc pc = .ok (.isub, 1)) (k : mt_V K cc own nL d σ (pc + 1) lv (.int (x - y) :: st) P) : mt_V K cc own nL d σ pc lv (.int y :: .int x :: st) P :=
  fun hP hX H locs ls h1 h2 hl => lv_isub hX.1 hX.2.1 hd (k hP hX H locs ls h1 h2 hl)
theorem mv_imul {x y : Int32} (hd : decode cc pc = .ok (.imul, 1)) (k : mt_V K cc own nL d σ (pc + 1) lv (.int (x * y) :: st) P) : mt_V K cc own nL d σ pc lv (.int y :: .int x :: st) P :=
  fun hP hX H locs ls h1 h2 hl => lv_imul hX.1 hX.2.1 hd (k hP hX H locs ls h1 h2 hl)
theorem mv_iand {x y : Int32} (hd : decode cc pc = .ok (.iand, 1)) (k : mt_V K cc own nL d σ (pc + 1) lv (.int (x &&& y) :: st) P) : mt_V K cc own nL d σ pc lv (.int y :: .int x :: st) P :=
  fun hP hX H locs ls h1 h2 hl => lv_iand hX.1 hX.2.1 hd (k hP hX H locs ls h1 h2 hl)
theorem mv_ior {x y : Int32} (hd : decode cc pc = .ok (.ior, 1)) (k : mt_V K cc own nL d σ (pc + 1) lv (.int (x ||| y) :: st) P) : mt_V K cc own nL d σ pc lv (.int y :: .int x :: st) P :=
  fun hP hX H locs ls h1 h2 hl => lv_ior hX.1 hX.2.1 hd (k hP hX H locs ls h1 h2 hl)
theorem mv_ixor {x y : Int32} (hd : decode cc pc = .ok (.ixor, 1)) (k : mt_V K cc own nL d σ (pc + 1) lv (.int (x ^^^ y) :: st) P) : mt_V K cc own nL d σ pc lv (.int y :: .int x :: st) P :=
  fun hP hX H locs ls h1 h2 hl => lv_ixor hX.1 hX.2.1 hd (k hP hX H locs ls h1 h2 hl)
theorem mv_ishl {x y : Int32} (hd : decode cc pc = .ok (.ishl, 1)) (k : mt_V K cc own nL d σ (pc + 1) lv (.int (x <<< (y &&& 31)) :: st) P) : mt_V K cc own nL d σ pc lv (.int y :: .int x :: st) P :=
  fun hP hX H locs ls h1 h2 hl => lv_ishl hX.1 hX.2.1 hd (k hP hX H locs ls h1 h2 hl)
theorem mv_ishr {x y : Int32} (hd : decode cc pc = .ok (.ishr, 1)) (k : mt_V K cc own nL d σ (pc + 1) lv (.int (x >>> (y &&& 31)) :: st) P) : mt_V K cc own nL d σ pc lv (.int y :: .int x :: st) P :=
  fun hP hX H locs ls h1 h2 hl => lv_ishr hX.1 hX.2.1 hd (k hP hX H locs ls h1 h2 hl)
theorem mv_ladd {x y : Int64} (hd : decode cc pc = .ok (.ladd, 1)) (k : mt_V K cc own nL d σ (pc + 1) lv (.long (x + y) :: st) P) : mt_V K cc own nL d σ pc lv (.long y :: .long x :: st) P :=
  fun hP hX H locs ls h1 h2 hl => lv_ladd hX.1 hX.2.1 hd (k hP hX H locs ls h1 h2 hl)
theorem mv_lsub {x y : Int64} (hd : decode cc pc = .ok (.lsub, 1)) (k : mt_V K cc own nL d σ (pc + 1) lv (.long (x - y) :: st) P) : mt_V K cc own nL d σ pc lv (.long y :: .long x :: st) P :=
  fun hP hX H locs ls h1 h2 hl => lv_lsub hX.1 hX.2.1 hd (k hP hX H locs ls h1 h2 hl)
theorem mv_lmul {x y : Int64} (hd : decode cc pc = .ok (.lmul, 1)) (k : mt_V K cc own nL d σ (pc + 1) lv (.long (x * y) :: st) P) : mt_V K cc own nL d σ pc lv (.long y :: .long x :: st) P :=
  fun hP hX H locs ls h1 h2 hl => lv_lmul hX.1 hX.2.1 hd (k hP hX H locs ls h1 h2 hl)
theorem mv_land {x y : Int64} (hd : decode cc pc = .ok (.land, 1)) (k : mt_V K cc own nL d σ (pc + 1) lv (.long (x &&& y) :: st) P) : mt_V K cc own nL d σ pc lv (.long y :: .long x :: st) P :=
  fun hP hX H locs ls h1 h2 hl => lv_land hX.1 hX.2.1 hd (k hP hX H locs ls h1 h2 hl)
theorem mv_lor {x y : Int64} (hd : decode cc pc = .ok (.lor, 1)) (k : mt_V K cc own nL d σ (pc + 1) lv (.long (x ||| y) :: st) P) : mt_V K cc own nL d σ pc lv (.long y :: .long x :: st) P :=
  fun hP hX H locs ls h1 h2 hl => lv_lor hX.1 hX.2.1 hd (k hP hX H locs ls h1 h2 hl)
theorem mv_lxor {x y : Int64} (hd : decode cc pc = .ok (.lxor, 1)) (k : mt_V K cc own nL d σ (pc + 1) lv (.long (x ^^^ y) :: st) P) : mt_V K cc own nL d σ pc lv (.long y :: .long x :: st) P :=
  fun hP hX H locs ls h1 h2 hl => lv_lxor hX.1 hX.2.1 hd (k hP hX H locs ls h1 h2 hl)
theorem mv_iushr {x y : Int32} (hd : decode cc pc = .ok (.iushr, 1)) (k : mt_V K cc own nL d σ (pc + 1) lv (.int ((x.toUInt32 >>> (y.toUInt32 &&& Int32.toUInt32 31)).toInt32) :: st) P) : mt_V K cc own nL d σ pc lv (.int y :: .int x :: st) P :=
  fun hP hX H locs ls h1 h2 hl => lv_iushr hX.1 hX.2.1 hd rfl (k hP hX H locs ls h1 h2 hl)
theorem mv_lushr {x : Int64} {y : Int32} (hd : decode cc pc = .ok (.lushr, 1)) (k : mt_V K cc own nL d σ (pc + 1) lv (.long ((x.toUInt64 >>> (y.toInt64.toUInt64 &&& Int64.toUInt64 63)).toInt64) :: st) P) : mt_V K cc own nL d σ pc lv (.int y :: .long x :: st) P :=
  fun hP hX H locs ls h1 h2 hl => lv_lushr hX.1 hX.2.1 hd rfl (k hP hX H locs ls h1 h2 hl)
theorem mv_lshl {x : Int64} {y : Int32} (hd : decode cc pc = .ok (.lshl, 1)) (k : mt_V K cc own nL d σ (pc + 1) lv (.long (x <<< (y.toInt64 &&& 63)) :: st) P) : mt_V K cc own nL d σ pc lv (.int y :: .long x :: st) P :=
  fun hP hX H locs ls h1 h2 hl => lv_lshl hX.1 hX.2.1 hd rfl (k hP hX H locs ls h1 h2 hl)
theorem mv_i2l {x : Int32} (hd : decode cc pc = .ok (.i2l, 1)) (k : mt_V K cc own nL d σ (pc + 1) lv (.long (x.toInt64) :: st) P) : mt_V K cc own nL d σ pc lv (.int x :: st) P :=
  fun hP hX H locs ls h1 h2 hl => lv_i2l hX.1 hX.2.1 hd rfl (k hP hX H locs ls h1 h2 hl)
theorem mv_l2i {x : Int64} (hd : decode cc pc = .ok (.l2i, 1)) (k : mt_V K cc own nL d σ (pc + 1) lv (.int (x.toInt32) :: st) P) : mt_V K cc own nL d σ pc lv (.long x :: st) P :=
  fun hP hX H locs ls h1 h2 hl => lv_l2i hX.1 hX.2.1 hd rfl (k hP hX H locs ls h1 h2 hl)
theorem mv_i2b {x : Int32} (hd : decode cc pc = .ok (.i2b, 1)) (k : mt_V K cc own nL d σ (pc + 1) lv (.int (x.toInt8.toInt32) :: st) P) : mt_V K cc own nL d σ pc lv (.int x :: st) P :=
  fun hP hX H locs ls h1 h2 hl => lv_i2b hX.1 hX.2.1 hd rfl (k hP hX H locs ls h1 h2 hl)
theorem mv_i2s {x : Int32} (hd : decode cc pc = .ok (.i2s, 1)) (k : mt_V K cc own nL d σ (pc + 1) lv (.int (x.toInt16.toInt32) :: st) P) : mt_V K cc own nL d σ pc lv (.int x :: st) P :=
  fun hP hX H locs ls h1 h2 hl => lv_i2s hX.1 hX.2.1 hd rfl (k hP hX H locs ls h1 h2 hl)
theorem mv_i2c {x : Int32} (hd : decode cc pc = .ok (.i2c, 1)) (k : mt_V K cc own nL d σ (pc + 1) lv (.int ((x.toUInt32 % 65536).toInt32) :: st) P) : mt_V K cc own nL d σ pc lv (.int x :: st) P :=
  fun hP hX H locs ls h1 h2 hl => lv_i2c hX.1 hX.2.1 hd rfl (k hP hX H locs ls h1 h2 hl)
theorem mv_lcmp {x y : Int64} (hd : decode cc pc = .ok (.lcmp, 1)) (k : mt_V K cc own nL d σ (pc + 1) lv (.int (lg_cmp x y) :: st) P) : mt_V K cc own nL d σ pc lv (.long y :: .long x :: st) P :=
  fun hP hX H locs ls h1 h2 hl => W.lcmp hX.1 hX.2.1 hd (k hP hX H locs ls h1 h2 hl)
theorem mv_dup {va : Value} (hd : decode cc pc = .ok (.dup, 1)) (hc : va.category = 1) (k : mt_V K cc own nL d σ (pc + 1) lv (va :: va :: st) P) : mt_V K cc own nL d σ pc lv (va :: st) P :=
  fun hP hX H locs ls h1 h2 hl => lv_dup hX.1 hX.2.1 hd hc (k hP hX H locs ls h1 h2 hl)
theorem mv_dup2 {va vb : Value} (hd : decode cc pc = .ok (.dup2, 1)) (hc : va.category = 1) (hc2 : vb.category = 1) (k : mt_V K cc own nL d σ (pc + 1) lv (va :: vb :: va :: vb :: st) P) : mt_V K cc own nL d σ pc lv (va :: vb :: st) P :=
  fun hP hX H locs ls h1 h2 hl => lv_dup2_11 hX.1 hX.2.1 hd hc hc2 (k hP hX H locs ls h1 h2 hl)
theorem mv_pop {va : Value} (hd : decode cc pc = .ok (.pop, 1)) (hc : va.category = 1) (k : mt_V K cc own nL d σ (pc + 1) lv st P) : mt_V K cc own nL d σ pc lv (va :: st) P :=
  fun hP hX H locs ls h1 h2 hl => lv_pop hX.1 hX.2.1 hd hc (k hP hX H locs ls h1 h2 hl)
theorem mv_goto {off : Int} (tgt : Nat) (hd : decode cc pc = .ok (.goto off, 3)) (ht : (pc : Int) + off = (tgt : Int)) (k : mt_V K cc own nL d σ tgt lv st P) : mt_V K cc own nL d σ pc lv st P :=
  fun hP hX H locs ls h1 h2 hl => lv_goto hX.1 hX.2.1 hd ht (k hP hX H locs ls h1 h2 hl)
theorem mv_idiv {x y : Int32} (hd : decode cc pc = .ok (.idiv, 1)) (hy : ¬ y = 0) (k : mt_V K cc own nL d σ (pc + 1) lv (.int (x / y) :: st) P) : mt_V K cc own nL d σ pc lv (.int y :: .int x :: st) P :=
  fun hP hX H locs ls h1 h2 hl => lv_idiv hX.1 hX.2.1 hd hy (k hP hX H locs ls h1 h2 hl)
theorem mv_idiv_c {β : Type} {x y : Int32} {P1 : Option β} {o : β} (hd : decode cc pc = .ok (.idiv, 1)) (k : mt_V K cc own nL d σ (pc + 1) lv (.int (x / y) :: st) (P1 = some o)) : mt_V K cc own nL d σ pc lv (.int y :: .int x :: st) (mt_chk (!decide (y = 0)) P1 = some o) := by
  intro hP hX H locs ls h1 h2 hl
  by_cases hy : y = 0
  · subst hy; simp [mt_chk] at hP
  · exact lv_idiv hX.1 hX.2.1 hd hy (k (by simpa [mt_chk, hy] using hP) hX H locs ls h1 h2 hl)
theorem mv_irem {x y : Int32} (hd : decode cc pc = .ok (.irem, 1)) (hy : ¬ y = 0) (k : mt_V K cc own nL d σ (pc + 1) lv (.int (x - x / y * y) :: st) P) : mt_V K cc own nL d σ pc lv (.int y :: .int x :: st) P :=
  fun hP hX H locs ls h1 h2 hl => lv_irem hX.1 hX.2.1 hd hy (k hP hX H locs ls h1 h2 hl)
theorem mv_irem_c {β : Type} {x y : Int32} {P1 : Option β} {o : β} (hd : decode cc pc = .ok (.irem, 1)) (k : mt_V K cc own nL d σ (pc + 1) lv (.int (x - x / y * y) :: st) (P1 = some o)) : mt_V K cc own nL d σ pc lv (.int y :: .int x :: st) (mt_chk (!decide (y = 0)) P1 = some o) := by
  intro hP hX H locs ls h1 h2 hl
  by_cases hy : y = 0
  · subst hy; simp [mt_chk] at hP
  · exact lv_irem hX.1 hX.2.1 hd hy (k (by simpa [mt_chk, hy] using hP) hX H locs ls h1 h2 hl)
theorem mv_if_eq {β : Type} {x : Int32} {off : Int} {P1 P2 : Option β} {o : Option β} (tgt : Nat) (hd : decode cc pc = .ok (.ifCond .eq off, 3)) (ht : (pc : Int) + off = (tgt : Int)) (kt : mt_V K cc own nL d σ tgt lv st (P1 = o)) (kf : mt_V K cc own nL d σ (pc + 3) lv st (P2 = o)) : mt_V K cc own nL d σ pc lv (.int x :: st) ((if x = 0 then P1 else P2) = o) :=
  fun hP hX H locs ls h1 h2 hl => lv_if_eq hX.1 hX.2.1 hd ht (fun q => kt (by rw [if_pos q] at hP; exact hP) hX H locs ls h1 h2 hl) (fun q => kf (by rw [if_neg q] at hP; exact hP) hX H locs ls h1 h2 hl)
theorem mv_icmp_eq {β : Type} {x y : Int32} {off : Int} {P1 P2 : Option β} {o : Option β} (tgt : Nat) (hd : decode cc pc = .ok (.if_icmp .eq off, 3)) (ht : (pc : Int) + off = (tgt : Int)) (kt : mt_V K cc own nL d σ tgt lv st (P1 = o)) (kf : mt_V K cc own nL d σ (pc + 3) lv st (P2 = o)) : mt_V K cc own nL d σ pc lv (.int y :: .int x :: st) ((if x = y then P1 else P2) = o) :=
  fun hP hX H locs ls h1 h2 hl => lv_icmp_eq hX.1 hX.2.1 hd ht (fun q => kt (by rw [if_pos q] at hP; exact hP) hX H locs ls h1 h2 hl) (fun q => kf (by rw [if_neg q] at hP; exact hP) hX H locs ls h1 h2 hl)
theorem mv_if_ne {β : Type} {x : Int32} {off : Int} {P1 P2 : Option β} {o : Option β} (tgt : Nat) (hd : decode cc pc = .ok (.ifCond .ne off, 3)) (ht : (pc : Int) + off = (tgt : Int)) (kt : mt_V K cc own nL d σ tgt lv st (P1 = o)) (kf : mt_V K cc own nL d σ (pc + 3) lv st (P2 = o)) : mt_V K cc own nL d σ pc lv (.int x :: st) ((if x = 0 then P2 else P1) = o) :=
  fun hP hX H locs ls h1 h2 hl => lv_if_ne hX.1 hX.2.1 hd ht (fun q => kt (by rw [if_neg q] at hP; exact hP) hX H locs ls h1 h2 hl) (fun q => kf (by rw [if_pos q] at hP; exact hP) hX H locs ls h1 h2 hl)
theorem mv_icmp_ne {β : Type} {x y : Int32} {off : Int} {P1 P2 : Option β} {o : Option β} (tgt : Nat) (hd : decode cc pc = .ok (.if_icmp .ne off, 3)) (ht : (pc : Int) + off = (tgt : Int)) (kt : mt_V K cc own nL d σ tgt lv st (P1 = o)) (kf : mt_V K cc own nL d σ (pc + 3) lv st (P2 = o)) : mt_V K cc own nL d σ pc lv (.int y :: .int x :: st) ((if x = y then P2 else P1) = o) :=
  fun hP hX H locs ls h1 h2 hl => lv_icmp_ne hX.1 hX.2.1 hd ht (fun q => kt (by rw [if_neg q] at hP; exact hP) hX H locs ls h1 h2 hl) (fun q => kf (by rw [if_pos q] at hP; exact hP) hX H locs ls h1 h2 hl)
theorem mv_if_lt {β : Type} {x : Int32} {off : Int} {P1 P2 : Option β} {o : Option β} (tgt : Nat) (hd : decode cc pc = .ok (.ifCond .lt off, 3)) (ht : (pc : Int) + off = (tgt : Int)) (kt : mt_V K cc own nL d σ tgt lv st (P1 = o)) (kf : mt_V K cc own nL d σ (pc + 3) lv st (P2 = o)) : mt_V K cc own nL d σ pc lv (.int x :: st) ((if x < 0 then P1 else P2) = o) :=
  fun hP hX H locs ls h1 h2 hl => lv_if_lt hX.1 hX.2.1 hd ht (fun q => kt (by rw [if_pos q] at hP; exact hP) hX H locs ls h1 h2 hl) (fun q => kf (by rw [if_neg q] at hP; exact hP) hX H locs ls h1 h2 hl)
theorem mv_icmp_lt {β : Type} {x y : Int32} {off : Int} {P1 P2 : Option β} {o : Option β} (tgt : Nat) (hd : decode cc pc = .ok (.if_icmp .lt off, 3)) (ht : (pc : Int) + off = (tgt : Int)) (kt : mt_V K cc own nL d σ tgt lv st (P1 = o)) (kf : mt_V K cc own nL d σ (pc + 3) lv st (P2 = o)) : mt_V K cc own nL d σ pc lv (.int y :: .int x :: st) ((if x < y then P1 else P2) = o) :=
  fun hP hX H locs ls h1 h2 hl => lv_icmp_lt hX.1 hX.2.1 hd ht (fun q => kt (by rw [if_pos q] at hP; exact hP) hX H locs ls h1 h2 hl) (fun q => kf (by rw [if_neg q] at hP; exact hP) hX H locs ls h1 h2 hl)
theorem mv_if_ge {β : Type} {x : Int32} {off : Int} {P1 P2 : Option β} {o : Option β} (tgt : Nat) (hd : decode cc pc = .ok (.ifCond .ge off, 3)) (ht : (pc : Int) + off = (tgt : Int)) (kt : mt_V K cc own nL d σ tgt lv st (P1 = o)) (kf : mt_V K cc own nL d σ (pc + 3) lv st (P2 = o)) : mt_V K cc own nL d σ pc lv (.int x :: st) ((if 0 ≤ x then P1 else P2) = o) :=
  fun hP hX H locs ls h1 h2 hl => lv_if_ge hX.1 hX.2.1 hd ht (fun q => kt (by rw [if_pos q] at hP; exact hP) hX H locs ls h1 h2 hl) (fun q => kf (by rw [if_neg q] at hP; exact hP) hX H locs ls h1 h2 hl)
theorem mv_icmp_ge {β : Type} {x y : Int32} {off : Int} {P1 P2 : Option β} {o : Option β} (tgt : Nat) (hd : decode cc pc = .ok (.if_icmp .ge off, 3)) (ht : (pc : Int) + off = (tgt : Int)) (kt : mt_V K cc own nL d σ tgt lv st (P1 = o)) (kf : mt_V K cc own nL d σ (pc + 3) lv st (P2 = o)) : mt_V K cc own nL d σ pc lv (.int y :: .int x :: st) ((if y ≤ x then P1 else P2) = o) :=
  fun hP hX H locs ls h1 h2 hl => lv_icmp_ge hX.1 hX.2.1 hd ht (fun q => kt (by rw [if_pos q] at hP; exact hP) hX H locs ls h1 h2 hl) (fun q => kf (by rw [if_neg q] at hP; exact hP) hX H locs ls h1 h2 hl)
theorem mv_if_gt {β : Type} {x : Int32} {off : Int} {P1 P2 : Option β} {o : Option β} (tgt : Nat) (hd : decode cc pc = .ok (.ifCond .gt off, 3)) (ht : (pc : Int) + off = (tgt : Int)) (kt : mt_V K cc own nL d σ tgt lv st (P1 = o)) (kf : mt_V K cc own nL d σ (pc + 3) lv st (P2 = o)) : mt_V K cc own nL d σ pc lv (.int x :: st) ((if 0 < x then P1 else P2) = o) :=
  fun hP hX H locs ls h1 h2 hl => lv_if_gt hX.1 hX.2.1 hd ht (fun q => kt (by rw [if_pos q] at hP; exact hP) hX H locs ls h1 h2 hl) (fun q => kf (by rw [if_neg q] at hP; exact hP) hX H locs ls h1 h2 hl)
theorem mv_icmp_gt {β : Type} {x y : Int32} {off : Int} {P1 P2 : Option β} {o : Option β} (tgt : Nat) (hd : decode cc pc = .ok (.if_icmp .gt off, 3)) (ht : (pc : Int) + off = (tgt : Int)) (kt : mt_V K cc own nL d σ tgt lv st (P1 = o)) (kf : mt_V K cc own nL d σ (pc + 3) lv st (P2 = o)) : mt_V K cc own nL d σ pc lv (.int y :: .int x :: st) ((if y < x then P1 else P2) = o) :=
  fun hP hX H locs ls h1 h2 hl => lv_icmp_gt hX.1 hX.2.1 hd ht (fun q => kt (by rw [if_pos q] at hP; exact hP) hX H locs ls h1 h2 hl) (fun q => kf (by rw [if_neg q] at hP; exact hP) hX H locs ls h1 h2 hl)
theorem mv_if_le {β : Type} {x : Int32} {off : Int} {P1 P2 : Option β} {o : Option β} (tgt : Nat) (hd : decode cc pc = .ok (.ifCond .le off, 3)) (ht : (pc : Int) + off = (tgt : Int)) (kt : mt_V K cc own nL d σ tgt lv st (P1 = o)) (kf : mt_V K cc own nL d σ (pc + 3) lv st (P2 = o)) : mt_V K cc own nL d σ pc lv (.int x :: st) ((if x ≤ 0 then P1 else P2) = o) :=
  fun hP hX H locs ls h1 h2 hl => lv_if_le hX.1 hX.2.1 hd ht (fun q => kt (by rw [if_pos q] at hP; exact hP) hX H locs ls h1 h2 hl) (fun q => kf (by rw [if_neg q] at hP; exact hP) hX H locs ls h1 h2 hl)
theorem mv_icmp_le {β : Type} {x y : Int32} {off : Int} {P1 P2 : Option β} {o : Option β} (tgt : Nat) (hd : decode cc pc = .ok (.if_icmp .le off, 3)) (ht : (pc : Int) + off = (tgt : Int)) (kt : mt_V K cc own nL d σ tgt lv st (P1 = o)) (kf : mt_V K cc own nL d σ (pc + 3) lv st (P2 = o)) : mt_V K cc own nL d σ pc lv (.int y :: .int x :: st) ((if x ≤ y then P1 else P2) = o) :=
  fun hP hX H locs ls h1 h2 hl => lv_icmp_le hX.1 hX.2.1 hd ht (fun q => kt (by rw [if_pos q] at hP; exact hP) hX H locs ls h1 h2 hl) (fun q => kf (by rw [if_neg q] at hP; exact hP) hX H locs ls h1 h2 hl)
end MV
