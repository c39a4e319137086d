/-! truth as a number, gates; of and barred -/
section
variable {FI : Bun → Prop}
def bI (b : Bool) : Int32 := if b then 1 else 0
theorem bI_eq (a b : Bool) : bI a = bI b ↔ a = b := by cases a <;> cases b <;> decide
theorem bI_zb (b : Bool) : zb (bI b) := by
  cases b
  · exact zb0
  · exact zb1
theorem bI_0 (b : Bool) : bI b = 0 ↔ b = false := by cases b <;> decide
theorem bI_1 (b : Bool) : ¬ bI b = 0 ↔ b = true := by cases b <;> decide
theorem br_b {b : Bool} {A B : Prop} (h0 : b = false → A) (h1 : b = true → B) : (bI b = 0 → A) ∧ (¬ bI b = 0 → B) := ⟨fun h => h0 ((bI_0 b).mp h), fun h => h1 ((bI_1 b).mp h)⟩
theorem wj_b {rest : Int32 → Prop} {c : Prop} (b : Bool) (hb : b = true ↔ c) (h : rest (bI b)) : wjoin rest (fun J => (c → J 1) ∧ (¬ c → J 0)) := by
  refine wj ⟨fun z => ?_, fun z => ?_⟩
  · rw [hb.mpr z] at h; exact h
  · cases b with
    | true => exact absurd (hb.mp rfl) z
    | false => exact h
theorem wj_n {rest : Int32 → Prop} {c : Prop} (b : Bool) (hb : b = false ↔ c) (h : rest (bI b)) : wjoin rest (fun J => (c → J 0) ∧ (¬ c → J 1)) := by
  refine wj ⟨fun z => ?_, fun z => ?_⟩
  · rw [hb.mpr z] at h; exact h
  · cases b with
    | false => exact absurd (hb.mp rfl) z
    | true => exact h
/-- a gate: none, or a cell -/
def gI (o : Option Nat) : Int32 := match o with
  | none => -1
  | some g => nI g
def gOk (o : Option Nat) : Prop := ∀ g, o = some g → g < 16
theorem gI_of {v : Int32} (h0 : -1 ≤ v.toInt) (h1 : v.toInt ≤ 15) : ∃ o, gOk o ∧ v = gI o := by
  by_cases h : v.toInt = -1
  · exact ⟨none, (fun g e => by cases e), by rw [fa_eq, h]; rfl⟩
  · obtain ⟨j, hj, e⟩ := of_toInt (x := v) (n := 16) (by omega) (by omega) (by decide)
    exact ⟨some j, (fun g eg => by cases eg; exact hj), e⟩
theorem gI_neg {o : Option Nat} (h : gOk o) : gI o < 0 ↔ o = none := by
  cases o with
  | none => exact ⟨fun _ => rfl, fun _ => by decide⟩
  | some g => exact ⟨fun z => absurd z (nI_pos (by have := h g rfl; omega)), fun z => by cases z⟩
theorem even5 {c : Nat} (hc : c < 16) {post : Int32 → Prop} (h : post (bI (evB c))) : wX5_isEven (nI c) post := by
  unfold wX5_isEven
  have e : bt (42405 : Int32) c = evB c := bt_nI (n := 42405) (by omega)
  refine holds_b (by omega) (fun hb => ?_) (fun hb => ?_)
  · rw [e] at hb; rw [hb] at h; exact ⟨zb1, h⟩
  · rw [e] at hb; rw [hb] at h; exact ⟨zb0, h⟩
def badG (e : Bool) : Option Nat → Bool
  | none => false
  | some g => evB g != e
def bothG : Option Nat → Option Nat → Nat
  | some g, some q => if evB g = evB q then 2 else 0
  | _, _ => 0
def barN (n : Nat) (i o : Option Nat) : Nat :=
  if n = 0 then 0 else if colB n 16 + 1 < colA n 16 ∨ colA n 16 + 1 < colB n 16 then 1 else
  if colA n 16 = colB n 16 then bothG i o
  else if badG (decide (colB n 16 < colA n 16)) i || badG (decide (colB n 16 < colA n 16)) o then 2 else 0
theorem col_0 : colA 0 16 = 0 ∧ colB 0 16 = 0 := by decide
theorem barN_0 {n : Nat} {i o : Option Nat} (h : n = 0) : barN n i o = 0 := if_pos h
theorem barN_1 {n : Nat} {i o : Option Nat} (h : colB n 16 + 1 < colA n 16 ∨ colA n 16 + 1 < colB n 16) : barN n i o = 1 := by
  have n0 : n ≠ 0 := fun z => by rw [z, col_0.1, col_0.2] at h; omega
  unfold barN
  rw [if_neg n0, if_pos h]
theorem barN_2 {n : Nat} {i o : Option Nat} (n0 : n ≠ 0) (h : colA n 16 = colB n 16) : barN n i o = bothG i o := by
  unfold barN
  rw [if_neg n0, if_neg (by omega), if_pos h]
theorem barN_3 {n : Nat} {i o : Option Nat} (n0 : n ≠ 0) (h : colA n 16 = colB n 16 + 1 ∨ colB n 16 = colA n 16 + 1) : barN n i o = if badG (decide (colB n 16 < colA n 16)) i || badG (decide (colB n 16 < colA n 16)) o then 2 else 0 := by
  unfold barN
  rw [if_neg n0, if_neg (by omega), if_neg (by omega)]
theorem bad_f {e : Bool} {g : Nat} (q : evB g = e) : badG e (some g) = false := by
  show (evB g != e) = false
  rw [q]; cases e <;> rfl
theorem bad_t {e : Bool} {g : Nat} (q : ¬ evB g = e) : badG e (some g) = true := by
  show (evB g != e) = true
  revert q
  generalize evB g = x
  cases x <;> cases e <;> decide
theorem badj {o : Option Nat} (ho : gOk o) {e : Bool} {rest : Int32 → Prop} (h : rest (bI (badG e o))) : wjoin rest (fun J => ((gI o < 0 → J 0) ∧ (¬ (gI o < 0) → wX5_isEven (gI o) (fun r => ((r = bI e → J 0) ∧ (¬ (r = bI e) → J 1)))))) := by
  refine wj ?_
  cases o with
  | none => exact br_t (by decide) h
  | some g =>
    have hg := ho g rfl
    refine br_f (nI_pos (by omega)) (even5 hg ?_)
    rw [bI_eq]
    refine ⟨fun q => ?_, fun q => ?_⟩
    · rw [bad_f q] at h; exact h
    · rw [bad_t q] at h; exact h
theorem bar5 {n : Nat} (h : n < 65536) {i o : Option Nat} (hi : gOk i) (ho : gOk o) {post : Int32 → Prop} (hp : post (nI (barN n i o))) : wX5_barOf (nI n) (gI i) (gI o) post := by
  unfold wX5_barOf
  have la : colA n 16 ≤ 16 := fb_ct_le _ _
  have lb : colB n 16 ≤ 16 := fb_ct_le _ _
  have hr := pk_sub_toInt (a := colA n 16) (b := colB n 16) (by omega) (by omega)
  have e1 : (1 : Int32).toInt = 1 := rfl
  have em : (-1 : Int32).toInt = -1 := rfl
  have e0 : (0 : Int32).toInt = 0 := rfl
  refine ⟨fun e => ?_, fun e => coloursOf_n h ?_⟩
  · rw [barN_0 ((nI_eq (b := 0) (by omega) (by decide)).mp e)] at hp; exact hp
  have n0 : n ≠ 0 := fun z => e (by rw [z]; rfl)
  refine ⟨fun c => ?_, fun c => ⟨fun d => ⟨fun z => ?_, fun z => ?_⟩, fun d => ?_⟩⟩
  · rw [fa_lt, hr, e1] at c
    rw [barN_1 (Or.inl (by omega))] at hp; exact hp
  · rw [fa_eq, hr, e0] at z
    rw [barN_2 n0 (by omega)] at hp
    cases i with
    | none => exact br_t (by decide) hp
    | some g =>
      have hg := hi g rfl
      refine br_f (nI_pos (by omega)) ?_
      cases o with
      | none => exact br_t (by decide) hp
      | some q =>
        have hq := ho q rfl
        refine br_f (nI_pos (by omega)) (even5 hg (even5 hq ?_))
        rw [bI_eq]
        refine ⟨fun w => ?_, fun w => ?_⟩
        · have : bothG (some g) (some q) = 2 := if_pos w
          rw [this] at hp; exact hp
        · have : bothG (some g) (some q) = 0 := if_neg w
          rw [this] at hp; exact hp
  · rw [fa_lt, hr, e1] at c
    rw [fa_le, hr, em] at d
    rw [fa_eq, hr, e0] at z
    refine wj_b (decide (colB n 16 < colA n 16)) (by rw [decide_eq_true_iff, fa_eq, hr, e1]; omega) ?_
    refine badj hi (badj ho ?_)
    rw [barN_3 n0 (by omega)] at hp
    cases h1 : badG (decide (colB n 16 < colA n 16)) i
    · cases h2 : badG (decide (colB n 16 < colA n 16)) o
      · rw [h1, h2] at hp; exact br_t rfl (br_t rfl hp)
      · rw [h1, h2] at hp; exact br_t rfl (br_f (by decide) hp)
    · rw [h1] at hp; exact br_f (by decide) hp
  · rw [fa_le, hr, em] at d
    rw [barN_1 (Or.inr (by omega))] at hp; exact hp
theorem isColour6 {S : Bun} {J : Lon} {f w : Nat} (hf : f < 6) (hw : w < 6) {i : Option Nat} (gi : gOk i) (ei : S 1 (2 + (6 * f + w)) = gI i) {e : Bool} {post : Int32 → Prop} (h : post (bI (!badG e i))) : wX6_isColour S J (nI f) (nI w) (bI e) post := by
  unfold wX6_isColour
  refine its6 hf hw ?_
  rw [ei]
  cases i with
  | none => exact br_t (by decide) h
  | some g =>
    have hg := gi g rfl
    refine br_f (nI_pos (by omega)) (its6 hf hw ?_)
    rw [ei]
    refine even6 hg ?_
    show ((bI (evB g) = bI e → post 1) ∧ (¬ bI (evB g) = bI e → post 0))
    rw [bI_eq]
    refine ⟨fun q => ?_, fun q => ?_⟩
    · rw [bad_f q] at h; exact h
    · rw [bad_t q] at h; exact h
theorem lo_of_ok : lo_of (InvG FI) := by
  intro C N S J a1 a2 hI
  obtain ⟨n, hn, en⟩ := hI.1.1.1
  have es : S 1 0 = nI n := hI.1.2.1.trans en
  have hbad : (¬ ∃ f w : Nat, f < n ∧ w ≤ 7 ∧ a1 = nI f ∧ a2 = nI w) → wX6_of S J a1 a2 (fun r1 S1 => (-1000000001 : Int32) - nI 0 = r1 ∧ InvG FI (bump5 C 0) N S1 J) := by
    intro hb
    unfold wX6_of
    refine isF6' hn es (fun t ht ex => wj (br_f (by decide) ?_)) (fun _ => wj (br_t rfl (both hI (by decide) e_b)))
    exact in_r (lo := 0) (hi := 7) (by decide) (by decide) (by decide) (fun w _ hw ew => absurd ⟨t, w, ht, hw, ex, ew⟩ hb) (fun _ => br_t rfl (both hI (by decide) e_b))
  unfold wX5_of
  refine hasF5 hn en (fun f hf ex => wj (br_f (by decide) ?_)) (fun h1 => wj (br_t rfl (find5 (k := 0) (by decide) (hbad (fun ⟨f, _, hf, _, e, _⟩ => h1 f hf e)))))
  have e7 : (7 : Int32).toInt = 7 := rfl
  have e0 : (0 : Int32).toInt = 0 := rfl
  rcases rng_or a2 0 7 (by decide) with ⟨w, -, hw, ew⟩ | ⟨hno, hr⟩
  · subst ex ew
    have hf6 : f < 6 := by omega
    obtain ⟨m, hm, em⟩ := earth_n (C 1 3 (6 * f)) (C 1 3 (6 * f + 1))
    have r3 := hI.1.2.2.2.1
    have sm : earthOf (S 1 (2 + (6 * f))) (S 1 (2 + (6 * f + 1))) = nI m := by rw [r3 _ (by omega), r3 _ (by omega)]; exact em
    refine br_f (nI_pos (by omega)) (br_t (nI_le (b := 7) hw (by decide)) ?_)
    have h6 : ∀ R : Int32, R = (if w = 6 then nI m else if w = 7 then nI (colA m 16) - nI (colB m 16) else C 1 3 (6 * f + w)) → wX6_of S J (nI f) (nI w) (fun r1 S1 => R = r1 ∧ InvG FI C N S1 J) := by
      rintro _ rfl
      unfold wX6_of
      refine isF6' hn es (fun _ _ _ => wj (br_f (by decide) ?_)) (fun hb => absurd rfl (hb f hf))
      refine in_r (lo := 0) (hi := 7) (by decide) (by decide) (by decide) (fun _ _ _ _ => br_f (by decide) ?_) (fun hb => absurd rfl (hb w (by omega) hw))
      by_cases w6 : w = 6
      · subst w6
        refine br_t (nI_le (a := 6) (by decide) (by decide)) (br_t rfl (earth6 hf6 ?_))
        rw [sm, if_pos rfl]; exact ⟨rfl, hI⟩
      · rw [if_neg w6]
        by_cases w7 : w = 7
        · subst w7
          refine br_t (nI_le (a := 6) (by decide) (by decide)) (br_f (by decide) (colours6 hf6 hm sm ?_))
          rw [if_pos rfl]; exact ⟨rfl, hI⟩
        · rw [if_neg w7]
          have w5 : w < 6 := by omega
          refine br_f (nI_ge (b := 6) w5 (by decide)) (its6 hf6 w5 ?_)
          exact ⟨(r3 _ (by omega)).symm, hI⟩
    by_cases w6 : w = 6
    · subst w6
      refine br_t rfl (earth5 hf6 ?_)
      rw [em]; exact h6 _ (by rw [if_pos rfl])
    · refine br_f (fun h => w6 ((nI_eq (b := 6) (by omega) (by decide)).mp h)) ?_
      by_cases w7 : w = 7
      · subst w7
        refine br_t rfl (earth5 hf6 ?_)
        rw [em]
        exact coloursOf_n hm (h6 _ (by rw [if_neg (by decide), if_pos rfl]))
      · exact br_f (fun h => w7 ((nI_eq (b := 7) (by omega) (by decide)).mp h)) (mark5 hf6 (by omega) (h6 _ (by rw [if_neg w6, if_neg w7])))
  · have hb := find5 (C := C) (N := N) (k := 0) (by decide) (post := fun r C1 => wX6_of S J a1 a2 (fun r1 S1 => r = r1 ∧ InvG FI C1 N S1 J)) (hbad (fun ⟨_, w, _, hw, _, e⟩ => hno w (by omega) hw e))
    refine ⟨fun _ => hb, fun hz => ⟨fun h2 => absurd ?_ hr, fun _ => hb⟩⟩
    rw [fa_lt, e0] at hz; rw [fa_le, e7] at h2
    exact ⟨by omega, by omega⟩
theorem lo_barred_ok : lo_barred (InvG FI) := by
  intro C N S J a1 hI
  obtain ⟨n, hn, en⟩ := hI.1.1.1
  have es : S 1 0 = nI n := hI.1.2.1.trans en
  unfold wX5_barred
  refine hasF5 hn en (fun f hf ex => br_f (by decide) ?_) (fun h1 => br_t rfl (find5 (k := 0) (by decide) ?_))
  · subst ex
    have hf6 : f < 6 := by omega
    obtain ⟨m, hm, em⟩ := earth_n (C 1 3 (6 * f)) (C 1 3 (6 * f + 1))
    have r3 := hI.1.2.2.2.1
    have sm : earthOf (S 1 (2 + (6 * f))) (S 1 (2 + (6 * f + 1))) = nI m := by rw [r3 _ (by omega), r3 _ (by omega)]; exact em
    have hw := (hI.1.1.2.2.1 f hf6).2.1
    obtain ⟨i, gi, ei⟩ := gI_of (hw 2 (by decide) (by decide)).1 (hw 2 (by decide) (by decide)).2
    obtain ⟨o, go, eo⟩ := gI_of (hw 3 (by decide) (by decide)).1 (hw 3 (by decide) (by decide)).2
    have si : S 1 (2 + (6 * f + 2)) = gI i := (r3 _ (by omega)).trans ei
    have so : S 1 (2 + (6 * f + 3)) = gI o := (r3 _ (by omega)).trans eo
    refine earth5 hf6 (mark5 (w := 2) hf6 (by decide) (mark5 (w := 3) hf6 (by decide) ?_))
    rw [em, ei, eo]
    refine bar5 hm gi go ?_
    unfold wX6_barred
    refine isF6' hn es (fun _ _ _ => br_f (by decide) ?_) (fun hb => absurd rfl (hb f hf))
    refine colours6 hf6 hm sm ?_
    have la : colA m 16 ≤ 16 := fb_ct_le _ _
    have lb : colB m 16 ≤ 16 := fb_ct_le _ _
    have hr := pk_sub_toInt (a := colA m 16) (b := colB m 16) (by omega) (by omega)
    have e1 : (1 : Int32).toInt = 1 := rfl
    have em1 : (-1 : Int32).toInt = -1 := rfl
    have e0 : (0 : Int32).toInt = 0 := rfl
    refine ⟨fun c => ⟨?_, hI⟩, fun c => ⟨fun d => earth6 hf6 ?_, fun d => ⟨?_, hI⟩⟩⟩
    · rw [fa_lt, hr, e1] at c
      rw [barN_1 (Or.inl (by omega))]; rfl
    · rw [sm]
      refine ⟨fun e => ⟨?_, hI⟩, fun e => ?_⟩
      · rw [barN_0 ((nI_eq (b := 0) (by omega) (by decide)).mp e)]; rfl
      have n0 : m ≠ 0 := fun z => e (by rw [z]; rfl)
      rw [fa_lt, hr, e1] at c
      rw [fa_le, hr, em1] at d
      refine ⟨fun z => ?_, fun z => ?_⟩
      · rw [fa_eq, hr, e0] at z
        rw [barN_2 n0 (by omega)]
        refine its6 (w := 2) hf6 (by decide) ?_
        rw [si]
        refine wj ?_
        cases i with
        | none => exact br_t (by decide) (br_t rfl ⟨rfl, hI⟩)
        | some g =>
          have hg := gi g rfl
          refine br_f (nI_pos (by omega)) (its6 (w := 3) hf6 (by decide) ?_)
          rw [so]
          cases o with
          | none => exact br_t (by decide) (br_t rfl ⟨rfl, hI⟩)
          | some q =>
            have hq := go q rfl
            refine br_f (nI_pos (by omega)) (br_f (by decide) (its6 (w := 2) hf6 (by decide) ?_))
            rw [si]
            refine even6 hg (its6 (w := 3) hf6 (by decide) ?_)
            rw [so]
            refine even6 hq ?_
            show ((bI (evB g) = bI (evB q) → _) ∧ (¬ bI (evB g) = bI (evB q) → _))
            rw [bI_eq]
            refine ⟨fun w => ⟨?_, hI⟩, fun w => ⟨?_, hI⟩⟩
            · have : bothG (some g) (some q) = 2 := if_pos w
              rw [this]; rfl
            · have : bothG (some g) (some q) = 0 := if_neg w
              rw [this]; rfl
      · rw [fa_eq, hr, e0] at z
        rw [barN_3 n0 (by omega)]
        have hle : (nI (colA m 16) - nI (colB m 16)) ≤ 0 ↔ ¬ colB m 16 < colA m 16 := by rw [fa_le, hr, e0]; omega
        refine wj_n (decide (colB m 16 < colA m 16)) (by rw [decide_eq_false_iff_not, hle]) ?_
        refine isColour6 (w := 2) hf6 (by decide) gi si ?_
        cases h1 : badG (decide (colB m 16 < colA m 16)) i
        · refine br_f (by decide) (wj_n (decide (colB m 16 < colA m 16)) (by rw [decide_eq_false_iff_not, hle]) ?_)
          refine isColour6 (w := 3) hf6 (by decide) go so ?_
          cases h2 : badG (decide (colB m 16 < colA m 16)) o
          · exact br_f (by decide) ⟨rfl, hI⟩
          · exact br_t rfl ⟨rfl, hI⟩
        · exact br_t rfl ⟨rfl, hI⟩
    · rw [fa_le, hr, em1] at d
      rw [barN_1 (Or.inr (by omega))]; rfl
  · unfold wX6_barred
    exact isF6' hn es (fun f hf e => absurd e (h1 f hf)) (fun _ => br_t rfl (both hI (by decide) e_b))
end
