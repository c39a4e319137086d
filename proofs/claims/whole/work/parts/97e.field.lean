/-! THE TEXT: a field -/
section
variable {b : Nat → Nat} {L : Nat}
/-! results as variables -/
theorem takeCells5' {T P : Bun} {s i f w : Nat} {r : Bool × Nat × Nat} (hr : clR b L s i = r) (hi : i < 14) (hf : f < 6) (hw : w < 6) (hT : Tk b L s T) (hd : P 3 (6 * f + w) = 0) {post : Int32 → Bun → Bun → Prop} (h1 : r.1 = true → ∀ T', Tk b L r.2.1 T' → post 1 T' (up P 3 (6 * f + w) (nI r.2.2))) (h0 : r.1 = false → ∀ T', Tk b L r.2.1 T' → post 0 T' P) : wX4_takeCells T P (nI f) i (nI w) post := by
  subst hr
  exact takeCells5 hi hf hw hT hd h1 h0
theorem clO' {S : Bun} {J : Lon} {s i : Nat} {r : Bool × Nat × Nat} (hr : clR b L s i = r) (hi : i < 14) (hS : Sy b L s S) {REST : Int32 × Bun → Prop} (h1 : r.1 = true → ∀ S' : Bun, FrP S S' → Sy b L r.2.1 S' → REST (nI r.2.2, S')) (h0 : r.1 = false → ∀ (x : Int32) (S' : Bun), FrP S S' → Wg r.2.1 S' → REST (x, S')) : wX6_isWord S J (nI (wI i 0)) (nI (wI i 1)) (nI (wI i 2)) (nI (wI i 3)) (nI (wI i 4)) (nI (wI i 5)) (nI (wI i 6)) (fun r9 => wjoin (σ := Int32 × Bun) REST (fun J13 => ((r9 = 0 → J13 ((0 : Int32), S)) ∧ (¬ (r9 = 0) → wX6_cells S J (fun r57 S59 => J13 (r57, S59)))))) := by
  subst hr
  exact clO hi hS h1 h0
theorem takeMark5' {T P : Bun} {s i f w : Nat} {dflt : Int32} {r : Bool × Nat × Int32} (hr : mkR b L s i (tbMost w) dflt = r) (hi : i < 14) (hf : f < 6) (hw : w < 6) (hm : (tbMost w).toInt ≤ 999) (hT : Tk b L s T) (hd : P 3 (6 * f + w) = dflt) {post : Int32 → Bun → Bun → Prop} (h1 : r.1 = true → ∀ T', Tk b L r.2.1 T' → post 1 T' (up P 3 (6 * f + w) r.2.2)) (h0 : r.1 = false → ∀ T', Tk b L r.2.1 T' → post 0 T' P) : wX4_takeMark T P (nI f) i (nI w) post := by
  subst hr
  exact takeMark5 hi hf hw hm hT hd h1 h0
theorem pmO' {S : Bun} {J : Lon} {s i : Nat} {most dflt : Int32} {r : Bool × Nat × Int32} (hr : mkR b L s i most dflt = r) (hi : i < 14) (hm : most.toInt ≤ 999) (hS : Sy b L s S) {REST : Int32 → Bun → Prop} (h1 : r.1 = true → ∀ S' : Bun, FrP S S' → Sy b L r.2.1 S' → REST r.2.2 S') (h0 : r.1 = false → ∀ (x : Int32) (S' : Bun), FrP S S' → Wg r.2.1 S' → REST x S') : wX6_isWord S J (nI (wI i 0)) (nI (wI i 1)) (nI (wI i 2)) (nI (wI i 3)) (nI (wI i 4)) (nI (wI i 5)) (nI (wI i 6)) (fun r23 => wX6_perhaps S J r23 most dflt (fun r25 S27 => REST r25 S27)) := by
  subst hr
  exact pmO hi hm hS h1 h0
variable {r1 r2 : Bool × Nat × Nat} {r3 r4 r5 : Bool × Nat × Int32}
def fdE (r1 r2 : Bool × Nat × Nat) (r3 r4 r5 : Bool × Nat × Int32) : Option Nat := if r1.1 = false then some r1.2.1 else if r2.1 = false then some r2.2.1 else if r3.1 = false then some r3.2.1 else if r4.1 = false then some r4.2.1 else if r5.1 = false then some r5.2.1 else none
theorem tf {x : Bool} (h : x = true) : ¬ x = false := by rw [h]; decide
theorem fd_1 (h : r1.1 = false) : fdE r1 r2 r3 r4 r5 = some r1.2.1 := if_pos h
theorem fd_2 (a1 : r1.1 = true) (h : r2.1 = false) : fdE r1 r2 r3 r4 r5 = some r2.2.1 := by
  unfold fdE; rw [if_neg (tf a1), if_pos h]
theorem fd_3 (a1 : r1.1 = true) (a2 : r2.1 = true) (h : r3.1 = false) : fdE r1 r2 r3 r4 r5 = some r3.2.1 := by
  unfold fdE; rw [if_neg (tf a1), if_neg (tf a2), if_pos h]
theorem fd_4 (a1 : r1.1 = true) (a2 : r2.1 = true) (a3 : r3.1 = true) (h : r4.1 = false) : fdE r1 r2 r3 r4 r5 = some r4.2.1 := by
  unfold fdE; rw [if_neg (tf a1), if_neg (tf a2), if_neg (tf a3), if_pos h]
theorem fd_5 (a1 : r1.1 = true) (a2 : r2.1 = true) (a3 : r3.1 = true) (a4 : r4.1 = true) (h : r5.1 = false) : fdE r1 r2 r3 r4 r5 = some r5.2.1 := by
  unfold fdE; rw [if_neg (tf a1), if_neg (tf a2), if_neg (tf a3), if_neg (tf a4), if_pos h]
theorem fd_n (a1 : r1.1 = true) (a2 : r2.1 = true) (a3 : r3.1 = true) (a4 : r4.1 = true) (a5 : r5.1 = true) : fdE r1 r2 r3 r4 r5 = none := by
  unfold fdE; rw [if_neg (tf a1), if_neg (tf a2), if_neg (tf a3), if_neg (tf a4), if_neg (tf a5)]
def fin5 (r1 r2 : Bool × Nat × Nat) (r3 r4 r5 : Bool × Nat × Int32) (P : Bun) (n : Nat) : Bun := up (up (up (up (up P 3 (6 * n + 0) (nI r1.2.2)) 3 (6 * n + 1) (nI r2.2.2)) 3 (6 * n + 2) r3.2.2) 3 (6 * n + 3) r4.2.2) 3 (6 * n + 4) r5.2.2
def fin6 (r1 r2 : Bool × Nat × Nat) (r3 r4 r5 : Bool × Nat × Int32) (S : Bun) (n : Nat) : Bun := up (up (up (up (up S 1 (2 + (6 * n + 0)) (nI r1.2.2)) 1 (2 + (6 * n + 1)) (nI r2.2.2)) 1 (2 + (6 * n + 2)) r3.2.2) 1 (2 + (6 * n + 3)) r4.2.2) 1 (2 + (6 * n + 4)) r5.2.2
def fQ (b : Nat → Nat) (L s : Nat) (r1 r2 : Bool × Nat × Nat) (r3 r4 r5 : Bool × Nat × Int32) : Prop := clR b L (nxS b L s) 1 = r1 ∧ clR b L r1.2.1 2 = r2 ∧ mkR b L r2.2.1 3 (tbMost 2) (-1) = r3 ∧ mkR b L r3.2.1 4 (tbMost 3) (-1) = r4 ∧ mkR b L r4.2.1 5 (tbMost 4) 0 = r5
theorem most_le : ∀ w, w < 5 → 2 ≤ w → (tbMost w).toInt ≤ 999 := by decide
theorem takeField5 {T P : Bun} {s n : Nat} (hq : fQ b L s r1 r2 r3 r4 r5) (hn : n < 6) (en : P 0 0 = nI n) (hT : Tk b L s T) {post : Int32 → Bun → Bun → Prop} (h1 : fdE r1 r2 r3 r4 r5 = none → ∀ T' P' : Bun, Tk b L r5.2.1 T' → newF P P' n → post 1 T' (fin5 r1 r2 r3 r4 r5 P' n)) (h0 : ∀ s', fdE r1 r2 r3 r4 r5 = some s' → ∀ T' P'' : Bun, Tk b L s' T' → post 0 T' P'') : wX4_takeField T P post := by
  obtain ⟨e1, e2, e3, e4, e5⟩ := hq
  unfold wX4_takeField
  rw [en]
  refine br_t (nI_lt (b := 6) hn (by decide)) (addField5 hn en (fun P' hP' => hT.to (fun T6 hT6 => ?_)))
  have d : ∀ w, w < 6 → P' 3 (6 * n + w) = tbFirst w := fun w hw => by rw [hP'.2.2.1, if_pos (by omega), Nat.add_sub_cancel_left]
  refine takeCells5' e1 (i := 1) (w := 0) (by decide) hn (by decide) hT6 ((d 0 (by decide)).trans rfl) (fun a1 T9 hT9 => br_f (by decide) ?_) (fun a1 T9 hT9 => br_t rfl (h0 _ (fd_1 a1) T9 P' hT9))
  refine takeCells5' e2 (i := 2) (w := 1) (by decide) hn (by decide) hT9 (by rw [up_ki (by omega)]; exact (d 1 (by decide)).trans rfl) (fun a2 T13 hT13 => br_f (by decide) ?_) (fun a2 T13 hT13 => br_t rfl (h0 _ (fd_2 a1 a2) T13 _ hT13))
  refine takeMark5' e3 (i := 3) (w := 2) (dflt := -1) (by decide) hn (by decide) (most_le 2 (by decide) (by decide)) hT13 (by rw [up_ki (by omega), up_ki (by omega)]; exact (d 2 (by decide)).trans rfl) (fun a3 T17 hT17 => br_f (by decide) ?_) (fun a3 T17 hT17 => br_t rfl (h0 _ (fd_3 a1 a2 a3) T17 _ hT17))
  refine takeMark5' e4 (i := 4) (w := 3) (dflt := -1) (by decide) hn (by decide) (most_le 3 (by decide) (by decide)) hT17 (by rw [up_ki (by omega), up_ki (by omega), up_ki (by omega)]; exact (d 3 (by decide)).trans rfl) (fun a4 T21 hT21 => br_f (by decide) ?_) (fun a4 T21 hT21 => br_t rfl (h0 _ (fd_4 a1 a2 a3 a4) T21 _ hT21))
  refine takeMark5' e5 (i := 5) (w := 4) (dflt := 0) (by decide) hn (by decide) (most_le 4 (by decide) (by decide)) hT21 (by rw [up_ki (by omega), up_ki (by omega), up_ki (by omega), up_ki (by omega)]; exact (d 4 (by decide)).trans rfl) (fun a5 T25 hT25 => br_f (by decide) ?_) (fun a5 T25 hT25 => br_t rfl (h0 _ (fd_5 a1 a2 a3 a4 a5) T25 _ hT25))
  exact h1 (fd_n a1 a2 a3 a4 a5) T25 P' hT25 hP'
/-- what a new field makes of the model's row -/
def nwF6 (S S' : Bun) (n : Nat) : Prop := (∀ r, r ≠ 1 → S' r = S r) ∧ S' 1 0 = nI (n + 1) ∧ S' 1 1 = S 1 1 ∧ (∀ k : Nat, k < 36 → S' 1 (2 + k) = if 6 * n ≤ k ∧ k < 6 * n + 6 then tbFirst (k - 6 * n) else S 1 (2 + k)) ∧ (∀ f : Nat, f < 6 → S' 1 (38 + f) = if f = n then 0 else S 1 (38 + f)) ∧ ∀ k : Nat, 44 ≤ k → S' 1 k = S 1 k
theorem fieldItem6 {S : Bun} {J : Lon} {s n : Nat} (hq : fQ b L s r1 r2 r3 r4 r5) (hn : n < 6) (en : S 1 0 = nI n) (hS : Sy b L s S) {post : Bun → Prop} (h1 : fdE r1 r2 r3 r4 r5 = none → ∀ S' S43 : Bun, FrP S S' → Sy b L r5.2.1 S' → nwF6 S' S43 n → post (fin6 r1 r2 r3 r4 r5 S43 n)) (h0 : ∀ s', fdE r1 r2 r3 r4 r5 = some s' → ∀ S' : Bun, FrP S S' → Wg s' S' → post S') : wX6_fieldItem S J post := by
  obtain ⟨e1, e2, e3, e4, e5⟩ := hq
  unfold wX6_fieldItem
  rw [c0', en]
  refine ⟨vin0, wj (br_f (nI_ge (b := 6) hn (by decide)) (needs_t hS (fun S7 v7 _ y7 => ?_)))⟩
  have wend : ∀ (s' : Nat) (S39 : Bun) (X : Prop), Wg s' S39 → (fdE r1 r2 r3 r4 r5 = some s') → FrP S S39 → ((S39 0 28 = 0 → X) ∧ (¬ (S39 0 28 = 0) → post S39)) := fun s' S39 X hw he hf => br_f (by rw [hw.2.1]; decide) (h0 s' he S39 hf hw)
  refine clO' e1 (i := 1) (by decide) y7 (fun a1 S12 v12 y12 => ?_) (fun a1 x S12 v12 y12 => ?_)
  · refine clO' e2 (i := 2) (by decide) y12 (fun a2 S19 v19 y19 => ?_) (fun a2 x S19 v19 y19 => ?_)
    · refine pmO' e3 (i := 3) (most := tbMost 2) (dflt := -1) (by decide) (most_le 2 (by decide) (by decide)) y19 (fun a3 S27 v27 y27 => ?_) (fun a3 x S27 v27 y27 => ?_)
      · refine pmO' e4 (i := 4) (most := tbMost 3) (dflt := -1) (by decide) (most_le 3 (by decide) (by decide)) y27 (fun a4 S33 v33 y33 => ?_) (fun a4 x S33 v33 y33 => ?_)
        · refine pmO' e5 (i := 5) (most := tbMost 4) (dflt := 0) (by decide) (most_le 4 (by decide) (by decide)) y33 (fun a5 S39 v39 y39 => ?_) (fun a5 x S39 v39 y39 => wend _ S39 _ y39 (fd_5 a1 a2 a3 a4 a5) ((((v7.tr v12).tr v19).tr v27).tr v33 |>.tr v39))
          have fr := ((((v7.tr v12).tr v19).tr v27).tr v33).tr v39
          have e39 : S39 1 0 = nI n := by rw [fr.1 1 (by decide)]; exact en
          refine br_t y39.2.2.2.2 (newField6 hn e39 (fun S43 p1 p2 p3 p4 p5 p6 => ?_))
          rintro _ rfl
          have ix : ∀ w, w < 6 → (2 : Int32) + 6 * nI n + nI w = nI (2 + (6 * n + w)) := fun w hw => ix_s hn hw
          have i0 : (2 : Int32) + 6 * nI n + 0 = nI (2 + (6 * n + 0)) := ix 0 (by decide)
          have i1' : (2 : Int32) + 6 * nI n + 1 = nI (2 + (6 * n + 1)) := ix 1 (by decide)
          have i2' : (2 : Int32) + 6 * nI n + 2 = nI (2 + (6 * n + 2)) := ix 2 (by decide)
          have i3' : (2 : Int32) + 6 * nI n + 3 = nI (2 + (6 * n + 3)) := ix 3 (by decide)
          have i4' : (2 : Int32) + 6 * nI n + 4 = nI (2 + (6 * n + 4)) := ix 4 (by decide)
          rw [i0, i1', i2', i3', i4', tn_nI (n := 2 + (6 * n + 0)) (by omega), tn_nI (n := 2 + (6 * n + 1)) (by omega), tn_nI (n := 2 + (6 * n + 2)) (by omega), tn_nI (n := 2 + (6 * n + 3)) (by omega), tn_nI (n := 2 + (6 * n + 4)) (by omega)]
          refine ⟨vp_in_nI (by omega) (by decide), ?_⟩
          rintro _ rfl
          refine ⟨vp_in_nI (by omega) (by decide), ?_⟩
          rintro _ rfl
          refine ⟨vp_in_nI (by omega) (by decide), ?_⟩
          rintro _ rfl
          refine ⟨vp_in_nI (by omega) (by decide), ?_⟩
          rintro _ rfl
          refine ⟨vp_in_nI (by omega) (by decide), ?_⟩
          rintro _ rfl
          exact h1 (fd_n a1 a2 a3 a4 a5) S39 S43 fr y39 ⟨p1, p2, p3, p4, p5, p6⟩
        · exact pmOw (i := 5) (by decide) y33 (wend _ S33 _ y33 (fd_4 a1 a2 a3 a4) ((((v7.tr v12).tr v19).tr v27).tr v33))
      · exact pmOw (i := 4) (by decide) y27 (pmOw (i := 5) (by decide) y27 (wend _ S27 _ y27 (fd_3 a1 a2 a3) (((v7.tr v12).tr v19).tr v27)))
    · exact pmOw (i := 3) (by decide) y19 (pmOw (i := 4) (by decide) y19 (pmOw (i := 5) (by decide) y19 (wend _ S19 _ y19 (fd_2 a1 a2) ((v7.tr v12).tr v19))))
  · exact clOw (i := 2) (by decide) y12 (pmOw (i := 3) (by decide) y12 (pmOw (i := 4) (by decide) y12 (pmOw (i := 5) (by decide) y12 (wend _ S12 _ y12 (fd_1 a1) (v7.tr v12)))))
theorem fieldItem6f {S : Bun} {J : Lon} {s : Nat} (en : S 1 0 = nI 6) (hS : Sy b L s S) {post : Bun → Prop} (h0 : ∀ S' : Bun, FrP S S' → Wg s S' → post S') : wX6_fieldItem S J post := by
  unfold wX6_fieldItem
  rw [c0', en]
  refine ⟨vin0, wj (br_t (by decide) (needs_f hS (fun S7 v7 y7 => ?_)))⟩
  exact clOw (i := 1) (by decide) y7 (clOw (i := 2) (by decide) y7 (pmOw (i := 3) (by decide) y7 (pmOw (i := 4) (by decide) y7 (pmOw (i := 5) (by decide) y7 (br_f (by rw [y7.2.1]; decide) (h0 S7 v7 y7))))))
end
