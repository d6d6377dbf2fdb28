/-! PURE PART. The abstract state of a world: a 0 its numbers (as the class has them), a 1 the list, a 3 the spots, a (4 + t) treaty t -/
theorem pu_row_row (σ : mt_St) (c : Nat) (f g : Nat → Int32) : mt_row (mt_row σ c f) c g = mt_row σ c g := by
  funext c'; unfold mt_row; split <;> rfl
theorem pu_up (σ : mt_St) (c k : Nat) (v : Int32) : mt_up σ c k v = mt_row σ c (upd (σ c) k v) := rfl
theorem pu_upd_s (f : Nat → Int32) (k : Nat) (x : Int32) : upd f k x k = x := by simp [upd]
theorem pu_upd_n {f : Nat → Int32} {k j : Nat} {x : Int32} (h : j ≠ k) : upd f k x j = f j := by simp [upd, h]
theorem pu_bnd {α β : Type} (a : α) (k : α → β) : mt_bnd a k = k a := rfl
theorem pu_chk {β : Type} (k : Option β) : mt_chk true k = k := rfl
theorem pu_chkP {β : Type} {b : Bool} (h : b = true) (k : Option β) : mt_chk b k = k := by rw [h]; rfl
theorem pu_call {α β : Type} (r : α) (σ : mt_St) (k : α → mt_St → Option β) : mt_call (some (r, σ)) k = k r σ := rfl
theorem pu_ask {α β : Type} (r : α) (k : α → Option β) : mt_ask (some r) k = k r := rfl
theorem pu_b0 : mt_b01 0 = true := by decide
theorem pu_b1 : mt_b01 1 = true := by decide
/-- sets of figures -/
def ps_S (x : Int32) : Prop := ∃ j : Nat, j < 4096 ∧ x = nI j
def pc (x : Int32) : Int32 := (fJ6_bitCount_0f7a4 0 x).getD 0
theorem pc_x (fu : Nat) (x : Int32) : fJ6_bitCount_0f7a4 fu x = some (pc x) := rfl
def hob (x : Int32) : Int32 := (fJ6_highestOneBit_0f7a4 0 x).getD 0
def nlz (x : Int32) : Option Int32 := fJ6_numberOfLeadingZeros_0f7a4 0 x
theorem nlz_61 (fu : Nat) (x y : Int32) : ∃ r, bJ6_numberOfLeadingZeros_0f7a4_61 fu x y = some r := by
  unfold bJ6_numberOfLeadingZeros_0f7a4_61; split <;> exact ⟨_, rfl⟩
theorem nlz_48 (fu : Nat) (x y : Int32) : ∃ r, bJ6_numberOfLeadingZeros_0f7a4_48 fu x y = some r := by
  unfold bJ6_numberOfLeadingZeros_0f7a4_48; split <;> exact nlz_61 _ _ _
theorem nlz_33 (fu : Nat) (x y : Int32) : ∃ r, bJ6_numberOfLeadingZeros_0f7a4_33 fu x y = some r := by
  unfold bJ6_numberOfLeadingZeros_0f7a4_33; split <;> exact nlz_48 _ _ _
theorem nlz_some (fu : Nat) (x : Int32) : ∃ r, fJ6_numberOfLeadingZeros_0f7a4 fu x = some r ∧ fJ6_numberOfLeadingZeros_0f7a4 0 x = some r := by
  have e : fJ6_numberOfLeadingZeros_0f7a4 fu x = fJ6_numberOfLeadingZeros_0f7a4 0 x := rfl
  rw [e]
  have h : ∃ r, fJ6_numberOfLeadingZeros_0f7a4 0 x = some r := by
    unfold fJ6_numberOfLeadingZeros_0f7a4
    repeat' split
    all_goals first | exact nlz_33 _ _ _ | exact ⟨_, rfl⟩
  obtain ⟨r, h⟩ := h
  exact ⟨r, h, h⟩
theorem hob_x (fu : Nat) (x : Int32) : fJ6_highestOneBit_0f7a4 fu x = some (hob x) := by
  obtain ⟨r, h1, h2⟩ := nlz_some fu x
  unfold hob fJ6_highestOneBit_0f7a4
  rw [h1, h2]
  rfl
/-! a treaty's row T: 0 kind, 1 first, 2 other, 3 mark, 4 force, 5 held, 6 waits, 7 broken -/
def bearsT (T : Nat → Int32) (up : Int32) : Int32 :=
  if T 0 = 1 then (if T 5 < 10 then 0 else 1) else if T 0 = 2 then 1 else if T 0 = 3 then 2 else if T 0 = 4 then (if T 3 &&& up &&& 2048 = 0 then 2 else 0) else if T 0 = 5 then 12 else if T 0 = 6 then (if T 5 < 10 then 0 else 1) + 2 else 0
def fadesT (T : Nat → Int32) : Int32 := if T 0 = 1 then 40 else if T 0 = 2 then 15 else if T 0 = 3 then 15 else if T 0 = 4 then 0 else if T 0 = 5 then 1 else if T 0 = 6 then 3 else 20
def yieldsT (T : Nat → Int32) : Int32 := if T 0 = 1 then (if T 3 = 0 then 2 else 1) else if T 0 = 2 then 1 + pc (T 3) else if T 0 = 3 then 3 + pc (T 3) else if T 0 = 4 then 2 * (3 + pc (T 3)) else if T 0 = 5 then 0 else if T 0 = 6 then 0 else 1
def renewsT (T : Nat → Int32) : Int32 := if T 0 = 1 then 10 else if T 0 = 2 then 3 else if T 0 = 3 then 3 else if T 0 = 4 then 0 else if T 0 = 5 then 6 else if T 0 = 6 then 1 else 5
def awaitT (T : Nat → Int32) (yard : Int32) : Nat → Int32 :=
  if renewsT T ≤ 0 then upd T 6 (mt_min (T 6 + 1) 9999) else if mt_min (T 6 + 1) 9999 < renewsT T then upd T 6 (mt_min (T 6 + 1) 9999) else upd (upd (upd (upd (upd T 6 (mt_min (T 6 + 1) 9999)) 4 1) 3 yard) 5 0) 6 0
def toFade (T : Nat → Int32) (h : Int32) : Prop := ¬ fadesT T ≤ 0 ∧ h - h / fadesT T * fadesT T = 0
def fadeT (T : Nat → Int32) : Nat → Int32 := if fadesT T ≤ 0 then T else if T 5 - T 5 / fadesT T * fadesT T = 0 then upd T 3 (T 3 &&& (hob (T 3) ^^^ (-1))) else T
def liveT (T : Nat → Int32) (up yard : Int32) : Nat → Int32 :=
  if T 4 = 0 then awaitT T yard else if pc (T 3 &&& up) ≤ bearsT T up then fadeT (upd T 5 (mt_min (T 5 + 1) 9999)) else upd (upd (upd (upd T 4 0) 7 (mt_min (T 7 + 1) 9999)) 5 0) 6 0
def gainT (T : Nat → Int32) (up : Int32) : Int32 := if T 4 = 0 then 0 else if pc (T 3 &&& up) ≤ bearsT T up then yieldsT T else 0
theorem x_within (fu : Nat) (v m : Int32) : fX5_isWithin fu v m = some (if v < 0 then 0 else if m < v then 0 else 1) := by
  unfold fX5_isWithin bX5_isWithin_13 bX5_isWithin_14
  repeat' split
  all_goals rfl
theorem x_bears (fu : Nat) (σ : mt_St) (c : Nat) (up : Int32) : fX3_bears fu σ c up = some (bearsT (σ c) up) := by
  unfold fX3_bears bX3_bears_14 bX3_bears_84 bearsT
  repeat' split
  all_goals first | rfl | contradiction
theorem x_fades (fu : Nat) (σ : mt_St) (c : Nat) : fX3_fades fu σ c = some (fadesT (σ c)) := by
  unfold fX3_fades fadesT
  repeat' split
  all_goals rfl
theorem x_renews (fu : Nat) (σ : mt_St) (c : Nat) : fX3_renews fu σ c = some (renewsT (σ c)) := by
  unfold fX3_renews renewsT
  repeat' split
  all_goals rfl
theorem x_yields (fu : Nat) (σ : mt_St) (c : Nat) : fX3_yields fu σ c = some (yieldsT (σ c)) := by
  unfold fX3_yields bX3_yields_56 yieldsT
  repeat' split
  all_goals rfl
theorem x_over (fu : Nat) (σ : mt_St) (c : Nat) (up : Int32) : fX3_isOverborne fu σ c up = some (if pc (σ c 3 &&& up) ≤ bearsT (σ c) up then 0 else 1) := by
  unfold fX3_isOverborne bX3_isOverborne_22
  rw [pc_x, pu_ask, x_bears, pu_ask]
  split <;> rfl
theorem pu_rn6 (T : Nat → Int32) (v : Int32) : renewsT (upd T 6 v) = renewsT T := rfl
theorem x_await (fu : Nat) (σ : mt_St) (c : Nat) (yard : Int32) : fX3_await fu σ c yard = some ((), mt_row σ c (awaitT (σ c) yard)) := by
  unfold fX3_await bX3_await_53 awaitT
  simp only [pu_bnd, pu_up, mt_row_s, pu_row_row, x_renews, pu_ask, pu_rn6, pu_upd_s]
  split
  · rfl
  · split <;> rfl
theorem x_toFade (fu : Nat) (σ : mt_St) (c : Nat) (h : Int32) : fX3_isToFade fu σ c h = some (if fadesT (σ c) ≤ 0 then 0 else if h - h / fadesT (σ c) * fadesT (σ c) = 0 then 1 else 0) := by
  unfold fX3_isToFade bX3_isToFade_19 bX3_isToFade_20
  rw [x_fades, pu_ask]
  by_cases h0 : fadesT (σ c) ≤ 0
  · rw [if_pos h0, if_pos h0]; rfl
  · have hz : (!decide (fadesT (σ c) = 0)) = true := by
      have : ¬ fadesT (σ c) = 0 := fun q => h0 (by rw [q]; decide)
      simp [this]
    rw [if_neg h0, if_neg h0, pu_chkP hz]
    split <;> rfl
theorem x_fade (fu : Nat) (σ : mt_St) (c : Nat) : fX3_fade fu σ c = some ((), mt_row σ c (fadeT (σ c))) := by
  have e : mt_row σ c (σ c) = σ := by funext c'; unfold mt_row; split <;> simp_all
  unfold fX3_fade bX3_fade_29 fadeT
  rw [x_toFade, pu_ask]
  by_cases h0 : fadesT (σ c) ≤ 0
  · rw [if_pos h0, if_pos h0, if_pos rfl, e]
  · rw [if_neg h0, if_neg h0]
    by_cases h1 : σ c 5 - σ c 5 / fadesT (σ c) * fadesT (σ c) = 0
    · rw [if_pos h1, if_pos h1, if_neg (by decide), hob_x, pu_ask, pu_bnd, pu_up]
    · rw [if_neg h1, if_neg h1, if_pos rfl, e]
theorem x_live (fu : Nat) (σ : mt_St) (c : Nat) (up yard : Int32) : fX3_live fu σ c up yard = some (gainT (σ c) up, mt_row σ c (liveT (σ c) up yard)) := by
  unfold fX3_live liveT gainT
  by_cases h4 : σ c 4 = 0
  · rw [if_pos h4, if_pos h4, if_pos h4, x_await, pu_call]
  · rw [if_neg h4, if_neg h4, if_neg h4, x_over, pu_ask]
    by_cases ho : pc (σ c 3 &&& up) ≤ bearsT (σ c) up
    · rw [if_pos ho, if_pos ho, if_pos ho, if_pos rfl, x_yields, pu_ask, pu_bnd, x_fade, pu_call]
      simp only [pu_up, mt_row_s, pu_row_row]
    · rw [if_neg ho, if_neg ho, if_neg ho, if_neg (by decide)]
      simp only [pu_bnd, pu_up, mt_row_s, pu_row_row]
      rfl
