theorem dJ0_coder_7d493_0 : decode cJ0_coder_7d493 0 = .ok (.getstatic 38, 3) := by decide +kernel
theorem dJ0_coder_7d493_3 : decode cJ0_coder_7d493 3 = .ok (.ifCond .eq 10, 3) := by decide +kernel
theorem dJ0_coder_7d493_6 : decode cJ0_coder_7d493 6 = .ok (.aload_n 0, 1) := by decide +kernel
theorem dJ0_coder_7d493_7 : decode cJ0_coder_7d493 7 = .ok (.getfield 15, 3) := by decide +kernel
theorem dJ0_coder_7d493_10 : decode cJ0_coder_7d493 10 = .ok (.goto 4, 3) := by decide +kernel
theorem dJ0_coder_7d493_13 : decode cJ0_coder_7d493 13 = .ok (.iconst 1, 1) := by decide +kernel
theorem dJ0_coder_7d493_14 : decode cJ0_coder_7d493 14 = .ok (.ireturn, 1) := by decide +kernel
set_option maxRecDepth 100000 in
theorem cal_J0_coder_7d493 : mt_cal yJ0_coder_7d493 cJ0_coder_7d493 1 (some .byte) 0 := ⟨lw_in 754 rfl rfl, lw_in 122 (by decide +kernel) rfl, by decide +kernel, by decide⟩
theorem ins_J0_coder_7d493 : mt_ins yJ0_coder_7d493 := ⟨lw_in 752 (by decide +kernel) rfl, lw_in 753 (by decide +kernel) rfl⟩
theorem dJ0_length_8abf5_0 : decode cJ0_length_8abf5 0 = .ok (.aload_n 0, 1) := by decide +kernel
theorem dJ0_length_8abf5_1 : decode cJ0_length_8abf5 1 = .ok (.getfield 9, 3) := by decide +kernel
theorem dJ0_length_8abf5_4 : decode cJ0_length_8abf5 4 = .ok (.arraylength, 1) := by decide +kernel
theorem dJ0_length_8abf5_5 : decode cJ0_length_8abf5 5 = .ok (.aload_n 0, 1) := by decide +kernel
theorem dJ0_length_8abf5_6 : decode cJ0_length_8abf5 6 = .ok (.invokevirtual 335, 3) := by decide +kernel
theorem dJ0_length_8abf5_9 : decode cJ0_length_8abf5 9 = .ok (.ishr, 1) := by decide +kernel
theorem dJ0_length_8abf5_10 : decode cJ0_length_8abf5 10 = .ok (.ireturn, 1) := by decide +kernel
set_option maxRecDepth 100000 in
theorem cal_J0_length_8abf5 : mt_cal yJ0_length_8abf5 cJ0_length_8abf5 1 (some .int) 0 := ⟨lw_in 750 rfl rfl, lw_in 122 (by decide +kernel) rfl, by decide +kernel, by decide⟩
theorem ins_J0_length_8abf5 : mt_ins yJ0_length_8abf5 := ⟨lw_in 748 (by decide +kernel) rfl, lw_in 749 (by decide +kernel) rfl⟩
theorem dJ0_isLatin1_aae02_0 : decode cJ0_isLatin1_aae02 0 = .ok (.getstatic 38, 3) := by decide +kernel
theorem dJ0_isLatin1_aae02_3 : decode cJ0_isLatin1_aae02 3 = .ok (.ifCond .eq 14, 3) := by decide +kernel
theorem dJ0_isLatin1_aae02_6 : decode cJ0_isLatin1_aae02 6 = .ok (.aload_n 0, 1) := by decide +kernel
theorem dJ0_isLatin1_aae02_7 : decode cJ0_isLatin1_aae02 7 = .ok (.getfield 15, 3) := by decide +kernel
theorem dJ0_isLatin1_aae02_10 : decode cJ0_isLatin1_aae02 10 = .ok (.ifCond .ne 7, 3) := by decide +kernel
theorem dJ0_isLatin1_aae02_13 : decode cJ0_isLatin1_aae02 13 = .ok (.iconst 1, 1) := by decide +kernel
theorem dJ0_isLatin1_aae02_14 : decode cJ0_isLatin1_aae02 14 = .ok (.goto 4, 3) := by decide +kernel
theorem dJ0_isLatin1_aae02_17 : decode cJ0_isLatin1_aae02 17 = .ok (.iconst 0, 1) := by decide +kernel
theorem dJ0_isLatin1_aae02_18 : decode cJ0_isLatin1_aae02 18 = .ok (.ireturn, 1) := by decide +kernel
set_option maxRecDepth 100000 in
theorem cal_J0_isLatin1_aae02 : mt_cal yJ0_isLatin1_aae02 cJ0_isLatin1_aae02 1 (some .boolean) 0 := ⟨lw_in 764 rfl rfl, lw_in 122 (by decide +kernel) rfl, by decide +kernel, by decide⟩
theorem ins_J0_isLatin1_aae02 : mt_ins yJ0_isLatin1_aae02 := ⟨lw_in 762 (by decide +kernel) rfl, lw_in 763 (by decide +kernel) rfl⟩
theorem dJ3_checkIndex_8e157_0 : decode cJ3_checkIndex_8e157 0 = .ok (.iload_n 0, 1) := by decide +kernel
theorem dJ3_checkIndex_8e157_1 : decode cJ3_checkIndex_8e157 1 = .ok (.ifCond .lt 8, 3) := by decide +kernel
theorem dJ3_checkIndex_8e157_4 : decode cJ3_checkIndex_8e157 4 = .ok (.iload_n 0, 1) := by decide +kernel
theorem dJ3_checkIndex_8e157_5 : decode cJ3_checkIndex_8e157 5 = .ok (.iload_n 1, 1) := by decide +kernel
theorem dJ3_checkIndex_8e157_6 : decode cJ3_checkIndex_8e157 6 = .ok (.if_icmp .lt 10, 3) := by decide +kernel
theorem dJ3_checkIndex_8e157_9 : decode cJ3_checkIndex_8e157 9 = .ok (.aload_n 2, 1) := by decide +kernel
theorem dJ3_checkIndex_8e157_10 : decode cJ3_checkIndex_8e157 10 = .ok (.iload_n 0, 1) := by decide +kernel
theorem dJ3_checkIndex_8e157_11 : decode cJ3_checkIndex_8e157 11 = .ok (.iload_n 1, 1) := by decide +kernel
theorem dJ3_checkIndex_8e157_12 : decode cJ3_checkIndex_8e157 12 = .ok (.invokestatic 95, 3) := by decide +kernel
theorem dJ3_checkIndex_8e157_15 : decode cJ3_checkIndex_8e157 15 = .ok (.athrow, 1) := by decide +kernel
theorem dJ3_checkIndex_8e157_16 : decode cJ3_checkIndex_8e157 16 = .ok (.iload_n 0, 1) := by decide +kernel
theorem dJ3_checkIndex_8e157_17 : decode cJ3_checkIndex_8e157 17 = .ok (.ireturn, 1) := by decide +kernel
set_option maxRecDepth 100000 in
theorem cal_J3_checkIndex_8e157 : mt_cal yJ3_checkIndex_8e157 cJ3_checkIndex_8e157 3 (some .int) 3 := ⟨lw_in 775 rfl rfl, lw_in 124 (by decide +kernel) rfl, by decide +kernel, by decide⟩
theorem sta_J3_checkIndex_8e157 : Cond.static yJ3_checkIndex_8e157 ∈ lw_g := lw_in 774 (by decide +kernel) rfl
theorem dJ0_checkIndex_df160_0 : decode cJ0_checkIndex_df160 0 = .ok (.iload_n 0, 1) := by decide +kernel
theorem dJ0_checkIndex_df160_1 : decode cJ0_checkIndex_df160 1 = .ok (.iload_n 1, 1) := by decide +kernel
theorem dJ0_checkIndex_df160_2 : decode cJ0_checkIndex_df160 2 = .ok (.getstatic 1053, 3) := by decide +kernel
theorem dJ0_checkIndex_df160_5 : decode cJ0_checkIndex_df160 5 = .ok (.invokestatic 1059, 3) := by decide +kernel
theorem dJ0_checkIndex_df160_8 : decode cJ0_checkIndex_df160 8 = .ok (.pop, 1) := by decide +kernel
theorem dJ0_checkIndex_df160_9 : decode cJ0_checkIndex_df160 9 = .ok (.return_, 1) := by decide +kernel
set_option maxRecDepth 100000 in
theorem cal_J0_checkIndex_df160 : mt_cal yJ0_checkIndex_df160 cJ0_checkIndex_df160 2 none 2 := ⟨lw_in 770 rfl rfl, lw_in 122 (by decide +kernel) rfl, by decide +kernel, by decide⟩
theorem sta_J0_checkIndex_df160 : Cond.static yJ0_checkIndex_df160 ∈ lw_g := lw_in 769 (by decide +kernel) rfl
theorem dJ1_charAt_3b067_0 : decode cJ1_charAt_3b067 0 = .ok (.iload_n 1, 1) := by decide +kernel
theorem dJ1_charAt_3b067_1 : decode cJ1_charAt_3b067 1 = .ok (.aload_n 0, 1) := by decide +kernel
theorem dJ1_charAt_3b067_2 : decode cJ1_charAt_3b067 2 = .ok (.arraylength, 1) := by decide +kernel
theorem dJ1_charAt_3b067_3 : decode cJ1_charAt_3b067 3 = .ok (.invokestatic 9, 3) := by decide +kernel
theorem dJ1_charAt_3b067_6 : decode cJ1_charAt_3b067 6 = .ok (.aload_n 0, 1) := by decide +kernel
theorem dJ1_charAt_3b067_7 : decode cJ1_charAt_3b067 7 = .ok (.iload_n 1, 1) := by decide +kernel
theorem dJ1_charAt_3b067_8 : decode cJ1_charAt_3b067 8 = .ok (.baload, 1) := by decide +kernel
theorem dJ1_charAt_3b067_9 : decode cJ1_charAt_3b067 9 = .ok (.sipush 255, 3) := by decide +kernel
theorem dJ1_charAt_3b067_12 : decode cJ1_charAt_3b067 12 = .ok (.iand, 1) := by decide +kernel
theorem dJ1_charAt_3b067_13 : decode cJ1_charAt_3b067 13 = .ok (.i2c, 1) := by decide +kernel
theorem dJ1_charAt_3b067_14 : decode cJ1_charAt_3b067 14 = .ok (.ireturn, 1) := by decide +kernel
set_option maxRecDepth 100000 in
theorem cal_J1_charAt_3b067 : mt_cal yJ1_charAt_3b067 cJ1_charAt_3b067 2 (some .char) 2 := ⟨lw_in 767 rfl rfl, lw_in 123 (by decide +kernel) rfl, by decide +kernel, by decide⟩
theorem sta_J1_charAt_3b067 : Cond.static yJ1_charAt_3b067 ∈ lw_g := lw_in 766 (by decide +kernel) rfl
theorem dJ0_charAt_5068e_0 : decode cJ0_charAt_5068e 0 = .ok (.aload_n 0, 1) := by decide +kernel
theorem dJ0_charAt_5068e_1 : decode cJ0_charAt_5068e 1 = .ok (.invokevirtual 492, 3) := by decide +kernel
theorem dJ0_charAt_5068e_4 : decode cJ0_charAt_5068e 4 = .ok (.ifCond .eq 12, 3) := by decide +kernel
theorem dJ0_charAt_5068e_7 : decode cJ0_charAt_5068e 7 = .ok (.aload_n 0, 1) := by decide +kernel
theorem dJ0_charAt_5068e_8 : decode cJ0_charAt_5068e 8 = .ok (.getfield 9, 3) := by decide +kernel
theorem dJ0_charAt_5068e_11 : decode cJ0_charAt_5068e 11 = .ok (.iload_n 1, 1) := by decide +kernel
theorem dJ0_charAt_5068e_12 : decode cJ0_charAt_5068e 12 = .ok (.invokestatic 495, 3) := by decide +kernel
theorem dJ0_charAt_5068e_15 : decode cJ0_charAt_5068e 15 = .ok (.ireturn, 1) := by decide +kernel
theorem dJ0_charAt_5068e_16 : decode cJ0_charAt_5068e 16 = .ok (.aload_n 0, 1) := by decide +kernel
theorem dJ0_charAt_5068e_17 : decode cJ0_charAt_5068e 17 = .ok (.getfield 9, 3) := by decide +kernel
theorem dJ0_charAt_5068e_20 : decode cJ0_charAt_5068e 20 = .ok (.iload_n 1, 1) := by decide +kernel
theorem dJ0_charAt_5068e_21 : decode cJ0_charAt_5068e 21 = .ok (.invokestatic 498, 3) := by decide +kernel
theorem dJ0_charAt_5068e_24 : decode cJ0_charAt_5068e 24 = .ok (.ireturn, 1) := by decide +kernel
set_option maxRecDepth 100000 in
theorem cal_J0_charAt_5068e : mt_cal yJ0_charAt_5068e cJ0_charAt_5068e 2 (some .char) 1 := ⟨lw_in 760 rfl rfl, lw_in 122 (by decide +kernel) rfl, by decide +kernel, by decide⟩
theorem ins_J0_charAt_5068e : mt_ins yJ0_charAt_5068e := ⟨lw_in 758 (by decide +kernel) rfl, lw_in 759 (by decide +kernel) rfl⟩
theorem ml_J0_335 : mt_ml RJ0 335 yJ0_coder_7d493 := Or.inl (lw_in 751 (by decide +kernel) rfl)
theorem ml_J0_492 : mt_ml RJ0 492 yJ0_isLatin1_aae02 := Or.inl (lw_in 761 (by decide +kernel) rfl)
theorem ml_J0_495 : mt_ml RJ0 495 yJ1_charAt_3b067 := Or.inl (lw_in 765 (by decide +kernel) rfl)
theorem ml_J0_1059 : mt_ml RJ0 1059 yJ3_checkIndex_8e157 := Or.inl (lw_in 773 (by decide +kernel) rfl)
theorem ml_J1_9 : mt_ml RJ1 9 yJ0_checkIndex_df160 := Or.inl (lw_in 768 (by decide +kernel) rfl)
theorem fj_38 : Cond.fieldLink RJ0 38 "java/lang/String" "COMPACT_STRINGS" "Z" ∈ lw_g := lw_in 755 (by decide +kernel) rfl
theorem fj_15 : Cond.fieldLink RJ0 15 "java/lang/String" "coder" "B" ∈ lw_g := lw_in 1384 (by decide +kernel) rfl
theorem fj_9 : Cond.fieldLink RJ0 9 "java/lang/String" "value" "[B" ∈ lw_g := lw_in 1383 (by decide +kernel) rfl
theorem fj_1053 : Cond.fieldLink RJ0 1053 "jdk/internal/util/Preconditions" "SIOOBE_FORMATTER" "Ljava/util/function/BiFunction;" ∈ lw_g := lw_in 771 (by decide +kernel) rfl
section MT0
variable {K : mt_C} {cc : ByteArray} {own : String} {nL d : Nat} {σ : mt_St} {pc : Nat} {lv : List (Nat × Value)} {st : List Value} {P : Prop}
theorem mw_if_eq_f {x : Int32} {off : Int} (hx : ¬ x = 0) (hd : decode cc pc = .ok (.ifCond .eq off, 3)) (tgt : Nat) (ht : (pc : Int) + off = (tgt : Int)) (kk : mt_V K cc own nL d σ (pc + 3) lv st P) : mt_V K cc own nL d σ pc lv (.int x :: st) P :=
  fun hP hX H locs ls h1 h2 hl => lv_if_eq hX.1 hX.2.1 hd ht (fun q => absurd q hx) (fun _ => kk hP hX H locs ls h1 h2 hl)
theorem mw_if_ne_f {x : Int32} {off : Int} (hx : x = 0) (hd : decode cc pc = .ok (.ifCond .ne off, 3)) (tgt : Nat) (ht : (pc : Int) + off = (tgt : Int)) (kk : mt_V K cc own nL d σ (pc + 3) lv st P) : mt_V K cc own nL d σ pc lv (.int x :: st) P :=
  fun hP hX H locs ls h1 h2 hl => lv_if_ne hX.1 hX.2.1 hd ht (fun q => absurd hx q) (fun _ => kk hP hX H locs ls h1 h2 hl)
theorem mw_if_lt_f {x : Int32} {off : Int} (hx : ¬ x < 0) (hd : decode cc pc = .ok (.ifCond .lt off, 3)) (tgt : Nat) (ht : (pc : Int) + off = (tgt : Int)) (kk : mt_V K cc own nL d σ (pc + 3) lv st P) : mt_V K cc own nL d σ pc lv (.int x :: st) P :=
  fun hP hX H locs ls h1 h2 hl => lv_if_lt hX.1 hX.2.1 hd ht (fun q => absurd q hx) (fun _ => kk hP hX H locs ls h1 h2 hl)
theorem mw_icmp_lt_t {x y : Int32} {off : Int} (hx : x < y) (hd : decode cc pc = .ok (.if_icmp .lt off, 3)) (tgt : Nat) (ht : (pc : Int) + off = (tgt : Int)) (kk : mt_V K cc own nL d σ tgt lv st P) : mt_V K cc own nL d σ pc lv (.int y :: .int x :: st) P :=
  fun hP hX H locs ls h1 h2 hl => lv_icmp_lt hX.1 hX.2.1 hd ht (fun _ => kk hP hX H locs ls h1 h2 hl) (fun q => absurd hx q)
theorem mw_gets1 (ho : own = RJ0) (hd : decode cc pc = .ok (.getstatic 38, 3)) (kk : mt_V K cc own nL d σ (pc + 3) lv (.int 1 :: st) P) : mt_V K cc own nL d σ pc lv st P := by
  intro hP hX H locs ls h1 h2 hl
  have k1 := kk hP hX H locs ls h1 h2 hl
  obtain ⟨hx, hb, hml, hown, hts, hK, hd2, hr, hlk⟩ := hX
  subst ho
  exact va_gets hx hb hK.2.2.2.2.1 h2 hown (hts _ fj_38) (fun _ h => h) hd k1
theorem mw_getsF (ho : own = RJ0) (hd : decode cc pc = .ok (.getstatic 1053, 3)) (kk : ∀ v : Value, v.category = 1 → mt_V K cc own nL d σ (pc + 3) lv (v :: st) P) : mt_V K cc own nL d σ pc lv st P := by
  intro hP hX H locs ls h1 h2 hl
  have k1 := fun v hv => kk v hv hP hX H locs ls h1 h2 hl
  obtain ⟨hx, hb, hml, hown, hts, hK, hd2, hr, hlk⟩ := hX
  subst ho
  rcases hK.2.2.2.2.2.1 with hZ | ⟨t, hZ⟩
  · exact va_gets hx hb hZ h2 hown (hts _ fj_1053) (fun _ h => h) hd (k1 _ rfl)
  · exact va_gets hx hb hZ h2 hown (hts _ fj_1053) (fun _ h => h) hd (k1 _ rfl)
theorem mw_coder {i : Nat} (hi : i < 13) (ho : own = RJ0) (hd : decode cc pc = .ok (.getfield 15, 3)) (kk : mt_V K cc own nL d σ (pc + 3) lv (.int 0 :: st) P) : mt_V K cc own nL d σ pc lv (.ref (mt_aK (kG K) i) :: st) P := by
  intro hP hX H locs ls h1 h2 hl
  have k1 := kk hP hX H locs ls h1 h2 hl
  obtain ⟨hx, hb, hml, hown, hts, hK, hd2, hr, hlk⟩ := hX
  subst ho
  exact vk_getf hx hb (hK.2.2.2.2.2.2.1 i hi).2.1 h2 hown (hts _ fj_15) (fun _ h => h) hd k1
theorem mw_value {i : Nat} (hi : i < 13) (ho : own = RJ0) (hd : decode cc pc = .ok (.getfield 9, 3)) (kk : mt_V K cc own nL d σ (pc + 3) lv (.ref (mt_aV (kG K) i) :: st) P) : mt_V K cc own nL d σ pc lv (.ref (mt_aK (kG K) i) :: st) P := by
  intro hP hX H locs ls h1 h2 hl
  have k1 := kk hP hX H locs ls h1 h2 hl
  obtain ⟨hx, hb, hml, hown, hts, hK, hd2, hr, hlk⟩ := hX
  subst ho
  exact vk_getf hx hb (hK.2.2.2.2.2.2.1 i hi).2.2.1 h2 hown (hts _ fj_9) (fun _ h => h) hd k1
theorem mw_blen {i : Nat} (hi : i < 13) (hd : decode cc pc = .ok (.arraylength, 1)) (kk : mt_V K cc own nL d σ (pc + 1) lv (.int (Int32.ofNat (mt_sl.getD i 0)) :: st) P) : mt_V K cc own nL d σ pc lv (.ref (mt_aV (kG K) i) :: st) P := by
  intro hP hX H locs ls h1 h2 hl
  have k1 := kk hP hX H locs ls h1 h2 hl
  obtain ⟨hx, hb, hml, hown, hts, hK, hd2, hr, hlk⟩ := hX
  exact va_tlen hx hb (hK.2.2.2.2.2.2.1 i hi).2.2.2 h2 rfl hd k1
theorem mw_bald {i : Nat} {k : Int32} (hi : i < 13) (hk : mt_in k (mt_sl.getD i 0) = true) (hd : decode cc pc = .ok (.baload, 1)) (kk : mt_V K cc own nL d σ (pc + 1) lv (.int ((mt_sb.getD i []).getD k.toNatClampNeg 0) :: st) P) : mt_V K cc own nL d σ pc lv (.int k :: .ref (mt_aV (kG K) i) :: st) P := by
  intro hP hX H locs ls h1 h2 hl
  have k1 := kk hP hX H locs ls h1 h2 hl
  obtain ⟨hx, hb, hml, hown, hts, hK, hd2, hr, hlk⟩ := hX
  exact va_tb hx hb (hK.2.2.2.2.2.2.1 i hi).2.2.2 h2 (mt_in_iff.mp hk) rfl hd k1
theorem mw_ret {v : Int32} {ty : FieldType} (hQ : mt_R K (some ty) (some (.int v)) σ) (hn : narrow ty (.int v) = .int v) (hd : decode cc pc = .ok (.ireturn, 1)) : mt_V K cc own nL d σ pc lv [.int v] P := by
  intro hP hX H locs ls h1 h2 hl
  obtain ⟨hx, hb, hml, hown, hts, hK, hd2, hr, hlk⟩ := hX
  obtain ⟨e1, e2, e3, e4⟩ := hQ
  unfold mt_W
  rw [e1, e3, e4]
  exact W.zret hx hb e2 hn (fun t ht hW => mt_fin h1 h2 _ ht _) h2.2.2 hd hlk
theorem mw_vret (hQ : mt_R K none none σ) (hd : decode cc pc = .ok (.return_, 1)) : mt_V K cc own nL d σ pc lv [] P := by
  intro hP hX H locs ls h1 h2 hl
  obtain ⟨hx, hb, hml, hown, hts, hK, hd2, hr, hlk⟩ := hX
  obtain ⟨e1, e2, e3, e4⟩ := hQ
  unfold mt_W
  rw [e1, e3, e4]
  exact W.vret hx hb e2 (fun t ht hW => mt_fin h1 h2 _ ht _) h2.2.2 hd hlk
theorem mw_aloadv {q : Fin 4} {i : Nat} {x : Nat} (k0 : Nat) (hd : decode cc pc = .ok (.aload_n q, 1)) (hi : (q : Nat) = i) (hk : lv[k0]? = some (i, .ref x)) (k : mt_V K cc own nL d σ (pc + 1) lv (.ref x :: st) P) : mt_V K cc own nL d σ pc lv st P := mv_aload_n k0 hd hi hk k
/-- a call on a text constant -/
theorem mw_cT {y : MethodName} {b : ByteArray} {mL n d' idx i : Nat} {rt : Option FieldType} {As stk : List Value} {ov : Option Value} {σ1 : mt_St} (hcal : mt_cal y b mL rt n) (hins : mt_ins y) (hml0 : mt_ml own idx y) (hi : i < 13) (hyc : y.cls = "java/lang/String") (hn : As.length = n) (hD : d' + 1 ≤ d) (hst : stk = As.reverse ++ .ref (mt_aK (kG K) i) :: st) (hw8 : (st.map fun v => v.category).sum ≤ 8) (hd : decode cc pc = .ok (.invokevirtual idx, 3))
    (con : mt_Con (kl K) (kG K) y b mL rt d' (.ref (mt_aK (kG K) i) :: As) σ ov σ1) (kk : mt_V K cc own nL d σ1 (pc + 3) lv (ov.toList ++ st) P) : mt_V K cc own nL d σ pc lv stk P := by
  intro hP hX H locs ls h1 h2 hl
  have k1 := kk hP hX
  obtain ⟨hx, hb, hml, hown, hts, hK, hd2, hrr, hlk⟩ := hX
  obtain ⟨c1, c2, c3, c4⟩ := hcal
  have hpre : PreV (ks K) H y.cls (mt_aK (kG K) i) (mt_Pc (kG K) σ (.ref (mt_aK (kG K) i) :: As)) As :=
    ⟨mt_fb _ _ _, by rw [hyc]; exact mt_vrecv hK.2.2.2.2.2.2.1 hi h2, fun U hU hW => ⟨rfl, by rw [hU]; exact h1, mt_K.go hW (by rw [hU]; exact h2) hK⟩⟩
  have hR : (mt_rm d').frames + 1 ≤ (kR K).frames ∧ 8 + (mL + 11) + (mt_rm d').locals ≤ (kR K).locals := by
    refine ⟨by show d' + 1 ≤ _; omega, ?_⟩
    show 8 + (mL + 11) + 36 * d' ≤ _
    omega
  refine mt_after (a := (Value.ref (mt_aK (kG K) i) :: As).toArray) (σ1 := σ1) (ov := ov) ?_ h2 (fun H1 l1 q1 q3 => k1 H1 l1 ls q1 q3 hl)
  rcases hml0 with hm | hm
  · exact va_runV (C := y.cls) ⟨hx, hb, hml, hown, hts⟩ con ⟨callB_of n hts (mt_gin y b mL rt c1) rfl rfl rfl (hts _ c2) (hts _ hm) c3 hR, hts _ hins.1, hts _ hins.2⟩ hpre rfl hn hl.1 hst (lv_room hw8) hd ⟨hrr.1, hrr.2⟩
  · exact va_runVN (C := y.cls) (host := "MarkTreaties") ⟨hx, hb, hml, hown, hts⟩ con ⟨⟨⟨rfl, rfl, hR.1, hR.2, pay_in hts (mt_gin y b mL rt c1), List.mem_cons_self⟩, hts _ c1, hts _ c2, ⟨c3.1, c3.2.1⟩, fun sig h => by have h2 := c3.2.2; rw [h] at h2; exact (Option.some.inj h2).symm, va_Nw.use rfl (hK.2.2.2.2.2.2.2.2 _ hm)⟩, hts _ hins.1, hts _ hins.2⟩ hpre rfl hn hl.1 hst (lv_room hw8) hd ⟨hrr.1, hrr.2⟩
end MT0
theorem co_J0_coder {l : Launch} {G : mt_G} {σ : mt_St} {i : Nat} (hi : i < 13) : mt_Con l G yJ0_coder_7d493 cJ0_coder_7d493 1 (some .byte) 0 [.ref (mt_aK G i)] σ (some (.int 0)) σ :=
  mt_con (by decide) (Nat.le_of_ble_eq_true rfl) (fun K hl hG hQ => by
    subst hl; subst hG
    refine mw_gets1 rfl dJ0_coder_7d493_0 ?_
    refine mw_if_eq_f (by decide) dJ0_coder_7d493_3 13 (by decide) ?_
    refine mv_aload_n 0 dJ0_coder_7d493_6 rfl rfl ?_
    refine mw_coder hi rfl dJ0_coder_7d493_7 ?_
    refine mv_goto 14 dJ0_coder_7d493_10 (by decide) ?_
    exact mw_ret hQ (by decide +kernel) dJ0_coder_7d493_14)
theorem co_J0_isLatin1 {l : Launch} {G : mt_G} {σ : mt_St} {i : Nat} (hi : i < 13) : mt_Con l G yJ0_isLatin1_aae02 cJ0_isLatin1_aae02 1 (some .boolean) 0 [.ref (mt_aK G i)] σ (some (.int 1)) σ :=
  mt_con (by decide) (Nat.le_of_ble_eq_true rfl) (fun K hl hG hQ => by
    subst hl; subst hG
    refine mw_gets1 rfl dJ0_isLatin1_aae02_0 ?_
    refine mw_if_eq_f (by decide) dJ0_isLatin1_aae02_3 17 (by decide) ?_
    refine mv_aload_n 0 dJ0_isLatin1_aae02_6 rfl rfl ?_
    refine mw_coder hi rfl dJ0_isLatin1_aae02_7 ?_
    refine mw_if_ne_f rfl dJ0_isLatin1_aae02_10 17 (by decide) ?_
    refine mv_iconst (v := 1) dJ0_isLatin1_aae02_13 (by decide) ?_
    refine mv_goto 18 dJ0_isLatin1_aae02_14 (by decide) ?_
    exact mw_ret hQ (by decide +kernel) dJ0_isLatin1_aae02_18)
theorem co_J3_check {l : Launch} {G : mt_G} {σ : mt_St} {k n : Int32} {v : Value} (hv : v.category = 1) (h0 : ¬ k < 0) (hk : k < n) : mt_Con l G yJ3_checkIndex_8e157 cJ3_checkIndex_8e157 3 (some .int) 0 [.int k, .int n, v] σ (some (.int k)) σ :=
  mt_con (by decide) (by cases v <;> first | exact Nat.le_of_ble_eq_true rfl | simp [Value.category] at hv) (fun K hl hG hQ => by
    subst hl; subst hG
    have e : lv_args 0 [.int k, .int n, v] = [(0, .int k), (1, .int n), (2, v)] := rfl
    rw [e]
    refine mv_iload_n 0 dJ3_checkIndex_8e157_0 rfl rfl ?_
    refine mw_if_lt_f h0 dJ3_checkIndex_8e157_1 9 (by decide) ?_
    refine mv_iload_n 0 dJ3_checkIndex_8e157_4 rfl rfl ?_
    refine mv_iload_n 1 dJ3_checkIndex_8e157_5 rfl rfl ?_
    refine mw_icmp_lt_t hk dJ3_checkIndex_8e157_6 16 (by decide) ?_
    refine mv_iload_n 0 dJ3_checkIndex_8e157_16 rfl rfl ?_
    exact mw_ret hQ rfl dJ3_checkIndex_8e157_17)
theorem co_J0_check {l : Launch} {G : mt_G} {σ : mt_St} {k n : Int32} (h0 : ¬ k < 0) (hk : k < n) : mt_Con l G yJ0_checkIndex_df160 cJ0_checkIndex_df160 2 none 1 [.int k, .int n] σ none σ :=
  mt_con (by decide) (Nat.le_of_ble_eq_true rfl) (fun K hl hG hQ => by
    subst hl; subst hG
    refine mv_iload_n 0 dJ0_checkIndex_df160_0 rfl rfl ?_
    refine mv_iload_n 1 dJ0_checkIndex_df160_1 rfl rfl ?_
    refine mw_getsF rfl dJ0_checkIndex_df160_2 (fun v hv => ?_)
    refine mv_cS0 (As := [.int k, .int n, v]) (st := []) cal_J3_checkIndex_8e157 sta_J3_checkIndex_8e157 ml_J0_1059 rfl (by decide) rfl (Nat.le_of_ble_eq_true rfl) dJ0_checkIndex_df160_5 (co_J3_check hv h0 hk) ?_
    refine mv_pop (va := .int k) dJ0_checkIndex_df160_8 rfl ?_
    exact mw_vret hQ dJ0_checkIndex_df160_9)
theorem fS_ok : ∀ i, i < 13 → ∀ j, j < mt_sl.getD i 0 → ((((mt_sb.getD i []).getD j 0 &&& 255).toUInt32 % 65536).toInt32 = (mt_sb.getD i []).getD j 0) ∧ narrow .char (.int ((mt_sb.getD i []).getD j 0)) = .int ((mt_sb.getD i []).getD j 0) := by decide +kernel
theorem fS_ln : ∀ i, i < 13 → Int32.ofNat (mt_sl.getD i 0) >>> ((0 : Int32) &&& 31) = Int32.ofNat (mt_sl.getD i 0) ∧ mt_sl.getD i 0 < 100 := by decide +kernel
theorem mt_in_lt {k : Int32} {n : Nat} (hn : n < 2 ^ 31) (h : mt_in k n = true) : ¬ k < 0 ∧ k < Int32.ofNat n := by
  simp only [mt_in, Bool.and_eq_true, decide_eq_true_eq] at h
  have e : (Int32.ofNat n).toInt = n := nI_toInt hn
  rw [Int32.lt_iff_toInt_lt, Int32.lt_iff_toInt_lt, Int32.toInt_zero, e]
  omega
theorem co_J1_charAt {l : Launch} {G : mt_G} {σ : mt_St} {i : Nat} {k : Int32} (hi : i < 13) (hk : mt_in k (mt_sl.getD i 0) = true) : mt_Con l G yJ1_charAt_3b067 cJ1_charAt_3b067 2 (some .char) 2 [.ref (mt_aV G i), .int k] σ (some (.int ((mt_sb.getD i []).getD k.toNatClampNeg 0))) σ := by
  have hlen : mt_sl.getD i 0 < 2 ^ 31 := Nat.lt_trans (fS_ln i hi).2 (by decide)
  obtain ⟨e1, e2⟩ := fS_ok i hi k.toNatClampNeg (mt_cl_lt hk)
  exact mt_con (by decide) (Nat.le_of_ble_eq_true rfl) (fun K hl hG hQ => by
    subst hl; subst hG
    refine mv_iload_n 1 dJ1_charAt_3b067_0 rfl rfl ?_
    refine mv_aload_n 0 dJ1_charAt_3b067_1 rfl rfl ?_
    refine mw_blen hi dJ1_charAt_3b067_2 ?_
    refine mv_cS0 (As := [.int k, .int (Int32.ofNat (mt_sl.getD i 0))]) (st := []) cal_J0_checkIndex_df160 sta_J0_checkIndex_df160 ml_J1_9 rfl (by decide) rfl (Nat.le_of_ble_eq_true rfl) dJ1_charAt_3b067_3 (co_J0_check (mt_in_lt hlen hk).1 (mt_in_lt hlen hk).2) ?_
    refine mv_aload_n 0 dJ1_charAt_3b067_6 rfl rfl ?_
    refine mv_iload_n 1 dJ1_charAt_3b067_7 rfl rfl ?_
    refine mw_bald hi hk dJ1_charAt_3b067_8 ?_
    refine mv_sipush (v := 255) dJ1_charAt_3b067_9 (by decide) ?_
    refine mv_iand dJ1_charAt_3b067_12 ?_
    refine mv_i2c dJ1_charAt_3b067_13 ?_
    rw [e1]
    exact mw_ret hQ e2 dJ1_charAt_3b067_14)
theorem co_J0_charAt {l : Launch} {G : mt_G} {σ : mt_St} {i : Nat} {k : Int32} (hi : i < 13) (hk : mt_in k (mt_sl.getD i 0) = true) : mt_Con l G yJ0_charAt_5068e cJ0_charAt_5068e 2 (some .char) 3 [.ref (mt_aK G i), .int k] σ (some (.int ((mt_sb.getD i []).getD k.toNatClampNeg 0))) σ := by
  obtain ⟨e1, e2⟩ := fS_ok i hi k.toNatClampNeg (mt_cl_lt hk)
  exact mt_con (by decide) (Nat.le_of_ble_eq_true rfl) (fun K hl hG hQ => by
    subst hl; subst hG
    refine mv_aload_n 0 dJ0_charAt_5068e_0 rfl rfl ?_
    refine mw_cT (As := []) (st := []) cal_J0_isLatin1_aae02 ins_J0_isLatin1_aae02 ml_J0_492 hi rfl rfl (by decide) rfl (Nat.le_of_ble_eq_true rfl) dJ0_charAt_5068e_1 (co_J0_isLatin1 hi) ?_
    refine mw_if_eq_f (x := 1) (by decide) dJ0_charAt_5068e_4 16 (by decide) ?_
    refine mv_aload_n 0 dJ0_charAt_5068e_7 rfl rfl ?_
    refine mw_value hi rfl dJ0_charAt_5068e_8 ?_
    refine mv_iload_n 1 dJ0_charAt_5068e_11 rfl rfl ?_
    refine mv_cS0 (As := [.ref (mt_aV (kG K) i), .int k]) (st := []) cal_J1_charAt_3b067 sta_J1_charAt_3b067 ml_J0_495 rfl (by decide) rfl (Nat.le_of_ble_eq_true rfl) dJ0_charAt_5068e_12 (co_J1_charAt hi hk) ?_
    exact mw_ret hQ e2 dJ0_charAt_5068e_15)
theorem co_J0_length {l : Launch} {G : mt_G} {σ : mt_St} {i : Nat} (hi : i < 13) : mt_Con l G yJ0_length_8abf5 cJ0_length_8abf5 1 (some .int) 1 [.ref (mt_aK G i)] σ (some (.int (Int32.ofNat (mt_sl.getD i 0)))) σ :=
  mt_con (by decide) (Nat.le_of_ble_eq_true rfl) (fun K hl hG hQ => by
    subst hl; subst hG
    refine mv_aload_n 0 dJ0_length_8abf5_0 rfl rfl ?_
    refine mw_value hi rfl dJ0_length_8abf5_1 ?_
    refine mw_blen hi dJ0_length_8abf5_4 ?_
    refine mv_aload_n 0 dJ0_length_8abf5_5 rfl rfl ?_
    refine mw_cT (As := []) (st := [.int (Int32.ofNat (mt_sl.getD i 0))]) cal_J0_coder_7d493 ins_J0_coder_7d493 ml_J0_335 hi rfl rfl (by decide) rfl (Nat.le_of_ble_eq_true rfl) dJ0_length_8abf5_6 (co_J0_coder hi) ?_
    refine mv_ishr dJ0_length_8abf5_9 ?_
    rw [(fS_ln i hi).1]
    exact mw_ret hQ rfl dJ0_length_8abf5_10)
/-! the text constants: how long, which signs -/
def fS_len (i : Nat) : Option Int32 := if i < 13 then some (Int32.ofNat (mt_sl.getD i 0)) else none
def fS_chr (i : Nat) (k : Int32) : Option Int32 := if i < 13 ∧ mt_in k (mt_sl.getD i 0) = true then some ((mt_sb.getD i []).getD k.toNatClampNeg 0) else none
section MT
variable {K : mt_C} {cc : ByteArray} {own : String} {nL d : Nat} {σ : mt_St} {pc : Nat} {lv : List (Nat × Value)} {st : List Value} {P : Prop}
theorem mv_len {β : Type} {i idx : Nat} {kf : Int32 → Option β} {o : β} (hi : i < 13) (hm : mt_ml own idx yJ0_length_8abf5) (hD : 1 + 1 ≤ d) (hw8 : (st.map fun v => v.category).sum ≤ 8) (hd : decode cc pc = .ok (.invokevirtual idx, 3)) (kk : ∀ r, mt_V K cc own nL d σ (pc + 3) lv (.int r :: st) (kf r = some o)) : mt_V K cc own nL d σ pc lv (.ref (mt_aK (kG K) i) :: st) (mt_ask (fS_len i) kf = some o) := by
  intro hP
  rw [fS_len, if_pos hi] at hP
  exact mw_cT (As := []) (st := st) cal_J0_length_8abf5 ins_J0_length_8abf5 hm hi rfl rfl hD rfl hw8 hd (co_J0_length hi) (kk _) hP
theorem mv_chr {β : Type} {i idx : Nat} {k : Int32} {kf : Int32 → Option β} {o : β} (hi : i < 13) (hm : mt_ml own idx yJ0_charAt_5068e) (hD : 3 + 1 ≤ d) (hw8 : (st.map fun v => v.category).sum ≤ 8) (hd : decode cc pc = .ok (.invokevirtual idx, 3)) (kk : ∀ r, mt_V K cc own nL d σ (pc + 3) lv (.int r :: st) (kf r = some o)) : mt_V K cc own nL d σ pc lv (.int k :: .ref (mt_aK (kG K) i) :: st) (mt_ask (fS_chr i k) kf = some o) := by
  intro hP
  by_cases hk : mt_in k (mt_sl.getD i 0) = true
  · rw [fS_chr, if_pos ⟨hi, hk⟩] at hP
    exact mw_cT (As := [.int k]) (st := st) cal_J0_charAt_5068e ins_J0_charAt_5068e hm hi rfl rfl hD rfl hw8 hd (co_J0_charAt hi hk) (kk _) hP
  · rw [fS_chr, if_neg (fun q => hk q.2)] at hP
    cases hP
end MT
