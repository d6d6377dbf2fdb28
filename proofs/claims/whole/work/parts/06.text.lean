/-! the text constants: how long, which signs -/
def fS_len (i : Nat) : Option Int32 := if i < 13 then some (Int32.ofNat (mt_sl.getD i 0)) else none
def fS_chr (i : Nat) (k : Int32) : Option Int32 := if i < 13 ∧ mt_in k (mt_sl.getD i 0) = true then some ((mt_sb.getD i []).getD k.toNatClampNeg 0) else none
section MT
variable {K : mt_C} {cc : ByteArray} {own : String} {nL d : Nat} {σ : mt_St} {pc : Nat} {lv : List (Nat × Value)} {st : List Value} {P : Prop}
theorem mv_len {β : Type} {i idx : Nat} {kf : Int32 → Option β} {o : β} (hi : i < 13) (hm : mt_ml own idx yJ0_length_8abf5) (hD : 1 + 1 ≤ d) (hw8 : (st.map fun v => v.category).sum ≤ 8) (hd : decode cc pc = .ok (.invokevirtual idx, 3)) (kk : ∀ r, mt_V K cc own nL d σ (pc + 3) lv (.int r :: st) (kf r = some o)) : mt_V K cc own nL d σ pc lv (.ref (mt_aK (kG K) i) :: st) (mt_ask (fS_len i) kf = some o) := sorry
theorem mv_chr {β : Type} {i idx : Nat} {k : Int32} {kf : Int32 → Option β} {o : β} (hi : i < 13) (hm : mt_ml own idx yJ0_charAt_5068e) (hD : 3 + 1 ≤ d) (hw8 : (st.map fun v => v.category).sum ≤ 8) (hd : decode cc pc = .ok (.invokevirtual idx, 3)) (kk : ∀ r, mt_V K cc own nL d σ (pc + 3) lv (.int r :: st) (kf r = some o)) : mt_V K cc own nL d σ pc lv (.int k :: .ref (mt_aK (kG K) i) :: st) (mt_ask (fS_chr i k) kf = some o) := sorry
end MT
