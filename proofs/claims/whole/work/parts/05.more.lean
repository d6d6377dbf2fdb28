def mt_min (x y : Int32) : Int32 := if y < x then y else x
def mt_max (x y : Int32) : Int32 := if x < y then y else x
def mt_cpok (sp dp n : Int32) (n0 n1 : Nat) : Bool := decide (0 ≤ sp.toInt) && decide (0 ≤ dp.toInt) && decide (0 ≤ n.toInt) && decide (sp.toInt + n.toInt ≤ n0) && decide (dp.toInt + n.toInt ≤ n1)
theorem mm_a : Cond.static Lib.Math.min.name ∈ lw_g := lw_in 439 (by decide +kernel) rfl
theorem mm_b : Cond.static Lib.Math.max.name ∈ lw_g := lw_in 442 (by decide +kernel) rfl
theorem mm_c : Cond.initialized "java/lang/Math" ∈ lw_g := lw_in 119 (by decide +kernel) rfl
theorem mm_d : Cond.code Lib.Math.min.name Lib.Math.min.code 2 (some .int) ∈ lw_g := lw_in 440 (by decide +kernel) rfl
theorem mm_e : Cond.code Lib.Math.max.name Lib.Math.max.code 2 (some .int) ∈ lw_g := lw_in 443 (by decide +kernel) rfl
theorem ac_a : Cond.native arraycopyName ∈ lw_g := lw_in 556 (by decide +kernel) rfl
theorem ac_b : Cond.static arraycopyName ∈ lw_g := lw_in 555 (by decide +kernel) rfl
theorem ac_c : Cond.initialized "java/lang/System" ∈ lw_g := lw_in 121 (by decide +kernel) rfl
theorem fl_ab : Cond.fieldLinkNest RX3 62 "MarkTreaties" "ABOVE" "[I" "MarkTreaties" ∈ lw_n := lw_inn 837 (by decide +kernel) rfl
theorem mt_ldcSw {p : Program} {l : Launch} {e : Env} {R : Room} {s : State} {m : MethodId} {args : Array Value} {below : List Frame} {meth : Method} {c : Code} {T : State} {locs : List Loc} {cells slots : Nat}
    (X : Stand p l e R s m args below meth c T locs cells slots) (hexec : p.tables.exec = Jvm.exec) {own text : String} {index : Nat} {a : Addr} (hown : s.vm.findClass own = some m.cls)
    (hconst : (Cond.stringRef own index text).before args s = true) (hev : (Term.string own index).eval args s none [] s = some (.ref a)) {g : JFrame} (hg : g.method = m) (hdg : decode c.code g.pc = .ok (.ldc_w index, 3)) :
    ∀ target, Steps p.tables e below (T.setTop { g with pc := g.pc + 3, stack := .ref a :: g.stack }) target → Steps p.tables e below (T.setTop g) target := by
  obtain ⟨k, cf, i, a', hk, hcf, hcp, -, hr, hev'⟩ := Cond.stringRef_spec hown hconst
  cases hev.symm.trans hev'
  obtain ⟨k', hk', he⟩ := X.warmed.alike.2.2 _ _ hk
  have hr' : k'.resolved[index]? = some (some (.string a)) := by
    rcases X.warmed.entry hk hk' index with h | ⟨h, -⟩
    · rw [h]; exact hr
    · rw [hr] at h; cases h
  intro target hrest
  subst hg
  jvm_step X.here [hexec, hdg, ldc_w.wp_string (e := e) (s := T) (f := g) X.here.top hk' (by rw [he]; exact hcf) hcp hr']
  exact hrest
section MM
variable {K : mt_C} {cc : ByteArray} {own : String} {nL d : Nat} {σ : mt_St} {pc : Nat} {lv : List (Nat × Value)} {st : List Value} {P : Prop}
theorem mv_mmin {x y : Int32} {idx : Nat} (hm : Cond.methodLink own idx Lib.Math.min.name ∈ lw_g) (hd1 : 1 ≤ d) (hw8 : (st.map fun v => v.category).sum ≤ 8) (hd : decode cc pc = .ok (.invokestatic idx, 3)) (kk : mt_V K cc own nL d σ (pc + 3) lv (.int (mt_min x y) :: st) P) : mt_V K cc own nL d σ pc lv (.int y :: .int x :: st) P := by
  intro hP hX H locs ls h1 h2 hl
  have k1 := kk hP hX H locs ls h1 h2 hl
  obtain ⟨hx, hb, hml, hown, hts, hK, hd2, hr, hlk⟩ := hX
  exact va_mmin hx hb (hml.trans hl.1.symm) hown (hts _ hm) (hts _ mm_a) (hts _ mm_c) (hts _ mm_d) (by omega) (by omega) hr.1 hr.2 hd k1
theorem mv_mmax {x y : Int32} {idx : Nat} (hm : Cond.methodLink own idx Lib.Math.max.name ∈ lw_g) (hd1 : 1 ≤ d) (hw8 : (st.map fun v => v.category).sum ≤ 8) (hd : decode cc pc = .ok (.invokestatic idx, 3)) (kk : mt_V K cc own nL d σ (pc + 3) lv (.int (mt_max x y) :: st) P) : mt_V K cc own nL d σ pc lv (.int y :: .int x :: st) P := by
  intro hP hX H locs ls h1 h2 hl
  have k1 := kk hP hX H locs ls h1 h2 hl
  obtain ⟨hx, hb, hml, hown, hts, hK, hd2, hr, hlk⟩ := hX
  exact va_mmax hx hb (hml.trans hl.1.symm) hown (hts _ hm) (hts _ mm_b) (hts _ mm_c) (hts _ mm_e) (by omega) (by omega) hr.1 hr.2 hd k1
theorem mt_nn {z : Int32} (h : 0 ≤ z.toInt) : z.toInt = (z.toNatClampNeg : Int) := by
  show z.toInt = ((z.toInt.toNat : Nat) : Int)
  omega
theorem mt_nlt {z : Int32} (h : 0 ≤ z.toInt) : ¬ z < 0 := by
  rw [Int32.lt_iff_toInt_lt, Int32.toInt_zero]; omega
theorem mv_acopy {β : Type} {c1 c2 idx : Nat} {sp dp n : Int32} {kf : mt_St → Option β} {o : β} (n0 n1 : Nat) (hk1 : mt_kd c1 = 7) (hn1 : mt_ln c1 = n0) (hk2 : mt_kd c2 = 7) (hn2 : mt_ln c2 = n1) (hm : Cond.methodLink own idx arraycopyName ∈ lw_g) (hd1 : 1 ≤ d) (hw8 : (st.map fun v => v.category).sum ≤ 8) (hd : decode cc pc = .ok (.invokestatic idx, 3)) (kk : ∀ σ1, mt_V K cc own nL d σ1 (pc + 3) lv st (kf σ1 = some o)) : mt_V K cc own nL d σ pc lv (.int n :: .int dp :: .ref (mt_adr (kG K) c2) :: .int sp :: .ref (mt_adr (kG K) c1) :: st) (mt_chk (mt_cpok sp dp n n0 n1) (mt_bnd (mt_row σ c2 (va_cpy (σ c1) (σ c2) sp.toNatClampNeg dp.toNatClampNeg n.toNatClampNeg)) kf) = some o) := by
  intro hP hX H locs ls h1 h2 hl
  obtain ⟨hb0, hP⟩ := mt_somE hP
  simp only [mt_cpok, Bool.and_eq_true, decide_eq_true_eq] at hb0
  obtain ⟨⟨⟨⟨b1, b2⟩, b3⟩, b4⟩, b5⟩ := hb0
  have k1 := kk _ hP hX
  obtain ⟨hx, hb, hml, hown, hts, hK, hd2, hr, hlk⟩ := hX
  have e1 := mt_nn b1
  have e2 := mt_nn b2
  have e3 := mt_nn b3
  have hlt1 := mt_lt hk1 (by decide)
  have hlt2 := mt_lt hk2 (by decide)
  refine va_copyi (D := mt_D (kG K)) (ty := .int) hx hb (hml.trans hl.1.symm) hown (hts _ hm) (hts _ ac_a) (hts _ ac_b) (hts _ ac_c) hK.1 h1 (mt_dis hK.2.1 σ) h2 c1 c2 0 0 (by rw [mt_ws_at hlt1, mt_E7 hk1]) (by rw [mt_ws_at hlt2, mt_E7 hk2]) rfl rfl rfl (mt_nlt b1) (mt_nlt b2) (mt_nlt b3) (by rw [hn1]; omega) (by rw [hn2]; omega) (fun i _ => rfl) (by omega) (Nat.le_trans (Nat.add_le_add_right hw8 _) (Nat.le_trans (show 8 + (nativeFrameWords "java/lang/System" "arraycopy" 5 + 11) ≤ 36 * 1 by decide) (Nat.le_trans (Nat.mul_le_mul_left 36 hd1) hd2.2))) hd (fun H1 l1 q1 q2 q3 => ?_)
  rw [mt_ws_set (σ' := mt_row σ c2 (va_cpy (σ c1) (σ c2) sp.toNatClampNeg dp.toNatClampNeg n.toNatClampNeg)) hlt2 (by rw [mt_row_s]; exact mt_E7 hk2) (fun j hj => mt_row_n hj)] at q1
  exact k1 H1 l1 ls q1 q3 hl
theorem mv_getA (hd : decode cc pc = .ok (.getstatic 62, 3)) (ho : own = RX3) (kk : mt_V K cc own nL d σ (pc + 3) lv (.ref (mt_tA (kG K)) :: st) P) : mt_V K cc own nL d σ pc lv st P := by
  intro hP hX H locs ls h1 h2 hl
  have k1 := kk hP hX H locs ls h1 h2 hl
  obtain ⟨hx, hb, hml, hown, hts, hK, hd2, hr, hlk⟩ := hX
  subst ho
  exact va_getsN hx hb hK.2.2.1 h2 hown (va_Nw.use rfl (hK.2.2.2.2.2.2.2.2 _ fl_ab)) (fun _ h => h) hd k1
theorem mv_abld {β : Type} {i : Int32} {P1 : Option β} {o : β} (hd : decode cc pc = .ok (.iaload, 1)) (kk : mt_V K cc own nL d σ (pc + 1) lv (.int (mt_ab i.toNatClampNeg) :: st) (P1 = some o)) : mt_V K cc own nL d σ pc lv (.int i :: .ref (mt_tA (kG K)) :: st) (mt_chk (mt_in i 7) P1 = some o) := by
  intro hP hX H locs ls h1 h2 hl
  obtain ⟨hb0, hP⟩ := mt_somE hP
  have k1 := kk hP hX H locs ls h1 h2 hl
  obtain ⟨hx, hb, hml, hown, hts, hK, hd2, hr, hlk⟩ := hX
  exact va_ti hx hb hK.2.2.2.1 h2 (mt_in_iff.mp hb0) rfl hd k1
theorem mv_ldcS {i idx : Nat} {tx : String} (hq : (own, idx, tx, i) ∈ mt_tx) (hd : decode cc pc = .ok (.ldc idx, 2)) (kk : mt_V K cc own nL d σ (pc + 2) lv (.ref (mt_aK (kG K) i) :: st) P) : mt_V K cc own nL d σ pc lv st P := by
  intro hP hX H locs ls h1 h2 hl
  have k1 := kk hP hX H locs ls h1 h2 hl
  obtain ⟨hx, hb, hml, hown, hts, hK, hd2, hr, hlk⟩ := hX
  exact va_ldcS hx hb hown (hK.2.2.2.2.2.2.2.1 _ hq) hd k1
theorem mv_ldcSw {i idx : Nat} {tx : String} (hq : (own, idx, tx, i) ∈ mt_tx) (hd : decode cc pc = .ok (.ldc_w idx, 3)) (kk : mt_V K cc own nL d σ (pc + 3) lv (.ref (mt_aK (kG K) i) :: st) P) : mt_V K cc own nL d σ pc lv st P := by
  intro hP hX H locs ls h1 h2 hl
  have k1 := kk hP hX H locs ls h1 h2 hl
  obtain ⟨hx, hb, hml, hown, hts, hK, hd2, hr, hlk⟩ := hX
  have hZ := hK.2.2.2.2.2.2.2.1 _ hq
  intro T hT X
  obtain ⟨t, a1, b1⟩ := k1 T hT X
  exact ⟨t, mt_ldcSw X hx hown (text := tx) (a := mt_aK (kG K) i) hZ.1 hZ.2 (g := F0 (km K) pc ls st) rfl (by rw [hb]; exact hd) t a1, b1⟩
end MM
