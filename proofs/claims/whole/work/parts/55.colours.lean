/-! colours: two counts -/
section
def evB (k : Nat) : Bool := (42405 : Nat).testBit k
def colA (n i : Nat) : Nat := fb_ct (fun k => n.testBit k && evB k) i
def colB (n i : Nat) : Nat := fb_ct (fun k => n.testBit k && !evB k) i
theorem odd_m : ∀ k, k < 16 → (23130 : Nat).testBit k = !evB k := by decide
theorem neg_m {n : Nat} (h : n < 65536) : nI n &&& (-42406) = nI (n &&& 23130) := by
  rw [← fa_and]
  refine b_ext (fun i hi => ?_)
  rw [b_and, b_and]
  by_cases h16 : i < 16
  · exact congrArg (bt (nI n) i && ·) ((show ∀ i, i < 16 → bt (-42406) i = bt (nI 23130) i by decide +kernel) i h16)
  · rw [bt_nI hi, Nat.testBit_lt_two_pow (Nat.lt_of_lt_of_le h (Nat.pow_le_pow_right (n := 2) (by decide) (by omega : 16 ≤ i))), Bool.false_and, Bool.false_and]
theorem coloursOf_n {n : Nat} (h : n < 65536) {post : Int32 → Prop} (hp : post (nI (colA n 16) - nI (colB n 16))) : wX5_coloursOf (nI n) post := by
  unfold wX5_coloursOf
  rw [neg_m h, fa_lit 42405, fa_and]
  have ha : n &&& 42405 < 65536 := Nat.lt_of_le_of_lt Nat.and_le_left h
  have hb : n &&& 23130 < 65536 := Nat.lt_of_le_of_lt Nat.and_le_left h
  refine bitCount_n ha (bitCount_n hb ?_)
  rw [pc_ct ha, pc_ct hb]
  have ea : fb_ct (fun k => (n &&& 42405).testBit k) 16 = colA n 16 := fb_ct_cong (fun k _ => Nat.testBit_and _ _ _)
  have eb : fb_ct (fun k => (n &&& 23130).testBit k) 16 = colB n 16 := fb_ct_cong (fun k hk => by rw [Nat.testBit_and, odd_m k hk])
  rw [ea, eb]
  exact hp
theorem even6 {post : Int32 → Prop} {c : Nat} (hc : c < 16) (h : post (if evB c then 1 else 0)) : wX6_isEven (nI c) post := by
  unfold wX6_isEven
  have t : ∀ c, c < 16 → (((nI c / 4 + (nI c - nI c / 4 * 4)) - (nI c / 4 + (nI c - nI c / 4 * 4)) / 2 * 2 = 0) ↔ evB c = true) := by decide +kernel
  rw [t c hc]
  refine ⟨fun e => ?_, fun e => ?_⟩
  · rw [if_pos e] at h; exact h
  · rw [if_neg e] at h; exact h
end
