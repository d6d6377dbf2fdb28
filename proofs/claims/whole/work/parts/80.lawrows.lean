/-! THE CLAIM OUT OF ONE WALK OF THE LAW'S BODY. Your part is whole_start (and what it stands on); all else here is the same for every law, but numbers. -/
def R_law : String := "MarkTreatiesLaw"
def lw_P (b : Addr) (xs : List Int32) (args : Array Value) (s : State) : Prop := args = #[.ref b] ∧ s.IntsAt b xs ∧ xs.length ≤ 3072 ∧ (Jvm.Cond.and given_1 narrow_1).before args s = true
def lw_Q (_ : Array Value) (s : State) (o : Outcome) (t : State) : Prop := o = .returned (some (.int 1)) ∧ Framed s o t [] 600000 7302250
def lw_Z (below : List Frame) (a : Array Value) (s : State) : State → Prop := fun t => ∃ o, t.status = .running ∧ Ended t below o ∧ lw_Q a s o t
/-- the law's own end, with 1 on the stack, nothing written that was there before, its room as the claim has it -/
theorem lw_ret {p : Program} {l : Launch} {e : Env} {s : State} {m : MethodId} {below : List Frame} {meth : Method} {c : Code} {b : Nat} (hx : p.tables.exec = Jvm.exec) (hb : c.code = code) (hr : meth.sig.returnType = ret) (hlocks : meth.locks = false) {pc : Nat} {H : Heap} {ls : Array Slot} (hdg : decode code pc = .ok (.ireturn, 1)) : W p l e room_1 s m #[Value.ref b] below meth c H [] 600000 7302250 (lw_Z below #[Value.ref b] s) (F0 m pc ls [.int 1]) := by
  intro T hT X
  obtain ⟨fs, hret, hrun, hended, hW, hframe⟩ := X.leave (v := some (.int 1)) (hlocks := hlocks) (fun h => by rw [hr] at h; cases h)
  have hmeth' : T.vm.method? m = some meth := X.method'
  refine ⟨T.setFrames fs, ?_, .returned (some (.int 1)), hrun, hended, rfl, ⟨_, rfl⟩, hW, hframe⟩
  jvm_step X.here [X.here.top, hx, hb, hdg, hmeth', hr, ret, narrow_b1]
  (try refine ⟨rfl, ?_⟩); (try refine ⟨rfl, ?_⟩)
  first | (intro acts; rw [hret _ acts rfl rfl rfl]) | rw [hret _ _ rfl rfl rfl]
  exact Steps.refl _
/-- what holds at the law's entry: the machine, the code, the tables' words (any of lw_tbl by 'hts w (by decide +kernel)'), the script of L ints xs at the cell b, what the Statement gives of the start (any of its parts by flat_of_before) -/
def lw_At (p : Program) (s : State) (m : MethodId) (meth : Method) (c : Code) (b L : Nat) (xs : Nat → Int32) : Prop :=
  p.tables.exec = Jvm.exec ∧ c.code = code ∧ meth.sig.returnType = ret ∧ c.maxLocals = 4 ∧ s.vm.findClass R_law = some m.cls ∧ (∀ w ∈ lw_tbl, w.before #[Value.ref b] s = true) ∧ va_X b L xs s s.heap ∧ b < s.heap.size ∧ meth.locks = false ∧ (Jvm.Cond.and given_1 narrow_1).before #[Value.ref b] s = true
/-- what the law's own walk owes at its end -/
def mt_LR (K : mt_C) (b : Nat) : Prop := kQ K = lw_Z (kb K) #[Value.ref b] (ks K) ∧ ka K = #[Value.ref b] ∧ kR K = room_1 ∧ (kt K).sig.returnType = ret ∧ kn K ≤ 600000 ∧ kz K ≤ 7302250 ∧ ∀ i, i < 68 → (ks K).heap.size ≤ mt_adr (kG K) i
section ML
variable {K : mt_C} {cc : ByteArray} {own : String} {nL d : Nat} {σ : mt_St} {pc : Nat} {lv : List (Nat × Value)} {st : List Value} {P : Prop}
theorem mv_lawret {b : Nat} {v : Int32} {σ' : mt_St} (hQ : mt_LR K b) (hcc : cc = code) (hd : decode cc pc = .ok (.ireturn, 1)) : mt_V K cc own nL d σ pc lv [.int v] (some (v, σ) = some ((1 : Int32), σ')) := by
  intro hP hX H locs ls h1 h2 hl
  cases hP
  obtain ⟨hx, hb, hml, hown, hts, hK, hd2, hr, hlk⟩ := hX
  obtain ⟨e1, e2, e3, e4, e5, e6, e7⟩ := hQ
  unfold mt_W
  rw [e1, e2, e3]
  refine va_forget (fun q hq => ?_) ?_
  · obtain ⟨i, hi, hq2⟩ := h2.2.2 q hq
    rw [hq2]
    exact e7 i hi
  · refine W.widen e5 e6 ?_
    subst hcc
    exact lw_ret hx hb e4 hlk hd
theorem mv_scr {β : Type} {b L : Nat} {xs : Nat → Int32} {i : Int32} {P1 : Option β} {o : β} (hX : va_X b L xs (ks K) (ks K).heap) (hbl : b < (ks K).heap.size) (hbA : ¬ mt_A (kG K) b) (hd : decode cc pc = .ok (.iaload, 1)) (kk : mt_V K cc own nL d σ (pc + 1) lv (.int (xs i.toNatClampNeg) :: st) (P1 = some o)) : mt_V K cc own nL d σ pc lv (.int i :: .ref b :: st) (mt_chk (mt_in i L) P1 = some o) := by
  intro hP hX0 H locs ls h1 h2 hl
  obtain ⟨hb0, hP⟩ := mt_somE hP
  exact va_sld hX0.1 hX0.2.1 hX hbl hbA h2 (mt_in_iff.mp hb0) hd (kk hP hX0 H locs ls h1 h2 hl)
theorem mv_scl {b L : Nat} {xs : Nat → Int32} (hX : va_X b L xs (ks K) (ks K).heap) (hbl : b < (ks K).heap.size) (hbA : ¬ mt_A (kG K) b) (hd : decode cc pc = .ok (.arraylength, 1)) (kk : mt_V K cc own nL d σ (pc + 1) lv (.int (Int32.ofNat L) :: st) P) : mt_V K cc own nL d σ pc lv (.ref b :: st) P :=
  fun hP hX0 H locs ls h1 h2 hl => va_slen hX0.1 hX0.2.1 hX hbl hbA h2 hd (kk hP hX0 H locs ls h1 h2 hl)
end ML
