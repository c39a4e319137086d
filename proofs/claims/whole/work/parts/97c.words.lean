/-! THE TEXT: words and numbers -/
section
variable {b : Nat → Nat} {L : Nat}
def wdL : List (List Nat) := [[102, 105, 101, 108, 100], [115, 116, 111, 110, 101, 115], [116, 114, 101, 101, 115], [105, 110], [111, 117, 116], [119, 101, 116], [106, 111, 105, 110], [116, 101, 97, 109], [108, 101, 102, 116], [114, 105, 103, 104, 116], [119, 105, 100, 101], [115, 104, 121], [115, 108, 111, 119], [112, 97, 99, 101]]
def wI (i k : Nat) : Nat := (wdL.getD i []).getD k 0
def lnW (i : Nat) : Nat := lenJS.getD i 0
theorem wI_ok : ∀ i, i < 14 → ∀ k, k < 7 → (wI i k = 0 ↔ lnW i ≤ k) ∧ (k < lnW i → 97 ≤ wI i k ∧ wI i k ≤ 122) ∧ wI i k ≤ 122 := by decide
theorem wI_b : ∀ i, i < 14 → ∀ k, k < lnW i → (bytJS.getD i []).getD k 0 = nI (wI i k) := by decide
theorem lnW_b : ∀ i, i < 14 → 2 ≤ lnW i ∧ lnW i ≤ 6 := by decide
def allW (b : Nat → Nat) (s i : Nat) : Nat → Bool
  | 0 => true
  | k + 1 => allW b s i k && (b (s + k) == wI i k)
theorem allW_f {s i k : Nat} : ∀ {n : Nat}, k < n → b (s + k) ≠ wI i k → allW b s i n = false
  | 0, h, _ => absurd h (by omega)
  | n + 1, h, e => by
    show (allW b s i n && (b (s + n) == wI i n)) = false
    by_cases q : k = n
    · rw [← q, beq_eq_false_iff_ne.mpr e, Bool.and_false]
    · rw [allW_f (by omega) e, Bool.false_and]
def wdB (b : Nat → Nat) (L s i : Nat) : Bool := (tE b L s - s == lnW i) && allW b s i (lnW i)
theorem wd_kd {s i : Nat} (hi : i < 14) (hs : s ≤ L) (h : wdB b L s i = true) : kdN b L s = 1 ∧ s < L := by
  unfold wdB at h
  rw [Bool.and_eq_true] at h
  have hl := lnW_b i hi
  have e : tE b L s - s = lnW i := eq_of_beq h.1
  have hsL : s < L := by
    rcases Nat.lt_or_ge s L with h' | h'
    · exact h'
    · have : tE b L s = s := if_pos h'
      omega
  have e0 : b (s + 0) = wI i 0 := by
    by_cases q : b (s + 0) = wI i 0
    · exact q
    · rw [allW_f (by omega) q] at h; exact absurd h.2 (by decide)
  have hw := (wI_ok i hi 0 (by decide)).2.1 (by omega)
  have le : isLe b s = true := decide_eq_true (by rw [Nat.add_zero] at e0; rw [e0]; exact hw)
  refine ⟨?_, hsL⟩
  unfold kdN
  rw [if_neg (by omega), if_pos le]
theorem kd_le (b : Nat → Nat) (L s : Nat) : kdN b L s ≤ 4 := by
  unfold kdN
  repeat' split
  all_goals decide
theorem isWord5 {T : Bun} {s i : Nat} (hi : i < 14) (hT : Tk b L s T) {post : Int32 → Prop} (h : post (bI (wdB b L s i))) : wX4_isWord T i post := by
  obtain ⟨⟨t1, t2, t3, t4⟩, m1, m3, m4, m2, _⟩ := hT
  have te := tE_le (b := b) m1
  have hl := lnW_b i hi
  have kl := kd_le b L s
  unfold wX4_isWord
  rw [m2, m3, m4, n_sub te.1 (by omega), show nI (kdN b L s) = (1 : Int32) ↔ kdN b L s = 1 from nI_eq (b := 1) (by omega) (by decide)]
  refine ⟨hi, fun z => ⟨hi, ?_⟩, fun z => ?_⟩
  · have el : nI (tE b L s - s) = nI (lenJS.getD i 0) ↔ tE b L s - s = lnW i := nI_eq (by omega) (by show lnW i < _; omega)
    refine ⟨fun e0 => ?_, fun e0 => ?_⟩
    · have e := el.mp e0
      refine wl_up (fun j x => x = nI j ∧ allW b s i j = true) (lnW i) ?_ (i := 0) (by omega) ⟨rfl, rfl⟩
      rintro j x KK hj ⟨rfl, k1⟩ hKK
      refine ⟨hi, fun hc => ?_, fun hc => ?_⟩
      · have : lnW i ≤ j := (nI_leI (by show lnW i < _; omega) (by omega)).mp hc
        obtain rfl : j = lnW i := by omega
        have : wdB b L s i = true := by unfold wdB; rw [k1, e, beq_self_eq_true]; rfl
        rw [this] at h; exact h
      · have hlt : j < lnW i := by
          rcases Nat.lt_or_ge j (lnW i) with h' | h'
          · exact h'
          · exact absurd (nI_le (show lenJS.getD i 0 ≤ j from h') (by omega)) hc
        rw [nI_add, tn_nI (n := s + j) (by omega), t2 (s + j) (by omega)]
        have hw := (wI_ok i hi j (by omega)).2.2
        have hb := t4 (s + j) (by omega)
        refine ⟨vp_in_nI (by omega) (by decide), hi, vp_in_nI hlt (by show lnW i < _; omega), ?_⟩
        rw [tn_nI (n := j) (by omega), wI_b i hi j hlt]
        have ew : nI (b (s + j)) = nI (wI i j) ↔ b (s + j) = wI i j := nI_eq (by omega) (by omega)
        refine ⟨fun q => ?_, fun q => ?_⟩ <;> rw [ew] at q
        · rintro _ rfl
          refine hKK _ hlt ⟨nI_1 j, ?_⟩
          show (allW b s i j && (b (s + j) == wI i j)) = true
          rw [k1, q, beq_self_eq_true]; rfl
        · have : wdB b L s i = false := by unfold wdB; rw [allW_f hlt q, Bool.and_false]
          rw [this] at h; exact h
    · have e : tE b L s - s ≠ lnW i := fun q => e0 (el.mpr q)
      have : wdB b L s i = false := by unfold wdB; rw [beq_eq_false_iff_ne.mpr e, Bool.false_and]
      rw [this] at h; exact h
  · have : wdB b L s i = false := by
      cases e : wdB b L s i with
      | false => rfl
      | true => exact absurd (wd_kd hi m1 e).1 z
    rw [this] at h; exact h
def cWd (b : Nat → Nat) (s i k : Nat) : Bool := decide (lnW i ≤ k) || (b (s + k) == wI i k)
theorem isAt6 {S : Bun} {J : Lon} {s i k : Nat} (hi : i < 14) (hk : k < 7) (hS : Sy b L s S) (e : tE b L s - s = lnW i) {post : Int32 → Prop} (h : post (bI (cWd b s i k))) : wX6_isAt S J (nI k) (nI (wI i k)) post := by
  obtain ⟨m, m1, m2, m3, m4⟩ := hS
  have te := tE_le (b := b) m1
  have L120 := m.2.2.1
  obtain ⟨w1, w2, w3⟩ := wI_ok i hi k hk
  unfold wX6_isAt
  unfold cWd at h
  rw [show nI (wI i k) = 0 ↔ wI i k = 0 from nI_eq (b := 0) (by omega) (by decide), w1, m2, nI_add]
  refine ⟨fun z => ?_, fun z => byteAt6 m (by omega) (fun y => ?_) (fun y => absurd y (by omega))⟩
  · rw [decide_eq_true z, Bool.true_or] at h; exact h
  · have hb := m.2.2.2 (s + k) (by omega)
    rw [decide_eq_false z, Bool.false_or] at h
    rw [show nI (b (s + k)) = nI (wI i k) ↔ b (s + k) = wI i k from nI_eq (by omega) (by omega)]
    refine ⟨fun q => ?_, fun q => ?_⟩
    · rw [q, beq_self_eq_true] at h; exact h
    · rw [beq_eq_false_iff_ne.mpr q] at h; exact h
theorem cW_all {s i : Nat} (hi : i < 14) : allW b s i (lnW i) = (((((((cWd b s i 0 && cWd b s i 1) && cWd b s i 2) && cWd b s i 3) && cWd b s i 4) && cWd b s i 5) && cWd b s i 6)) := by
  have hl := lnW_b i hi
  have st : ∀ k, cWd b s i k = (decide (lnW i ≤ k) || (b (s + k) == wI i k)) := fun _ => rfl
  rw [st 0, st 1, st 2, st 3, st 4, st 5, st 6]
  generalize lnW i = n at hl
  match n, hl with
  | 2, _ => simp [allW]
  | 3, _ => simp [allW]
  | 4, _ => simp [allW]
  | 5, _ => simp [allW]
  | 6, _ => simp [allW]
  | 0, h => exact absurd h.1 (by decide)
  | 1, h => exact absurd h.1 (by decide)
  | n + 7, h => exact absurd h.2 (by omega)
theorem many6 {i : Nat} (hi : i < 14) {rest : Int32 → Prop} (h : rest (nI (lnW i))) : wjoin (σ := Int32) rest (fun J2 => ((nI (wI i 2) = 0 → J2 (2 : Int32)) ∧ (¬ (nI (wI i 2) = 0) → ((nI (wI i 3) = 0 → J2 (3 : Int32)) ∧ (¬ (nI (wI i 3) = 0) → ((nI (wI i 4) = 0 → J2 (4 : Int32)) ∧ (¬ (nI (wI i 4) = 0) → ((nI (wI i 5) = 0 → J2 (5 : Int32)) ∧ (¬ (nI (wI i 5) = 0) → ((nI (wI i 6) = 0 → J2 (6 : Int32)) ∧ (¬ (nI (wI i 6) = 0) → J2 (7 : Int32)))))))))))) := by
  have hl := lnW_b i hi
  have z : ∀ k, k < 7 → (nI (wI i k) = 0 ↔ lnW i ≤ k) := fun k hk => by
    have w := wI_ok i hi k hk
    rw [show nI (wI i k) = 0 ↔ wI i k = 0 from nI_eq (b := 0) (by omega) (by decide)]; exact w.1
  rw [z 2 (by decide), z 3 (by decide), z 4 (by decide), z 5 (by decide), z 6 (by decide)]
  generalize lnW i = n at hl h
  refine wj ⟨fun q => ?_, fun q2 => ⟨fun q => ?_, fun q3 => ⟨fun q => ?_, fun q4 => ⟨fun q => ?_, fun q5 => ⟨fun q => ?_, fun q => absurd hl.2 q⟩⟩⟩⟩⟩
  · obtain rfl : n = 2 := by omega
    exact h
  · obtain rfl : n = 3 := by omega
    exact h
  · obtain rfl : n = 4 := by omega
    exact h
  · obtain rfl : n = 5 := by omega
    exact h
  · obtain rfl : n = 6 := by omega
    exact h
theorem isWord6 {S : Bun} {J : Lon} {s i : Nat} (hi : i < 14) (hS : Sy b L s S) {post : Int32 → Prop} (h : post (bI (wdB b L s i))) : wX6_isWord S J (nI (wI i 0)) (nI (wI i 1)) (nI (wI i 2)) (nI (wI i 3)) (nI (wI i 4)) (nI (wI i 5)) (nI (wI i 6)) post := by
  obtain ⟨m, m1, m2, m3, m4⟩ := id hS
  have te := tE_le (b := b) m1
  have L120 := m.2.2.1
  have hl := lnW_b i hi
  unfold wX6_isWord
  refine many6 hi (br_t m4 ?_)
  rw [m2, m3, n_sub te.1 (by omega), show nI (tE b L s - s) = nI (lnW i) ↔ tE b L s - s = lnW i from nI_eq (by omega) (by omega)]
  refine ⟨fun e => ?_, fun e => ?_⟩
  · have ew : wdB b L s i = (((((((cWd b s i 0 && cWd b s i 1) && cWd b s i 2) && cWd b s i 3) && cWd b s i 4) && cWd b s i 5) && cWd b s i 6)) := by
      unfold wdB; rw [e, beq_self_eq_true, Bool.true_and]; exact cW_all hi
    rw [ew] at h

    refine isAt6 (k := 0) hi (by decide) hS e (br_b (fun z => ?_) (fun z0 => ?_))
    · rw [z] at h
      simp at h
      exact h
    refine isAt6 (k := 1) hi (by decide) hS e (br_b (fun z => ?_) (fun z1 => ?_))
    · rw [z, z0] at h
      simp at h
      exact h
    refine isAt6 (k := 2) hi (by decide) hS e (br_b (fun z => ?_) (fun z2 => ?_))
    · rw [z, z0, z1] at h
      simp at h
      exact h
    refine isAt6 (k := 3) hi (by decide) hS e (br_b (fun z => ?_) (fun z3 => ?_))
    · rw [z, z0, z1, z2] at h
      simp at h
      exact h
    refine isAt6 (k := 4) hi (by decide) hS e (br_b (fun z => ?_) (fun z4 => ?_))
    · rw [z, z0, z1, z2, z3] at h
      simp at h
      exact h
    refine isAt6 (k := 5) hi (by decide) hS e (br_b (fun z => ?_) (fun z5 => ?_))
    · rw [z, z0, z1, z2, z3, z4] at h
      simp at h
      exact h
    refine isAt6 (k := 6) hi (by decide) hS e (br_b (fun z => ?_) (fun z6 => ?_))
    · rw [z, z0, z1, z2, z3, z4, z5] at h
      simp at h
      exact h
    rw [z0, z1, z2, z3, z4, z5, z6] at h
    exact h
  · have : wdB b L s i = false := by unfold wdB; rw [beq_eq_false_iff_ne.mpr e, Bool.false_and]
    rw [this] at h; exact h
theorem isWord6w {S : Bun} {J : Lon} {s i : Nat} (hi : i < 14) (hS : Wg s S) {post : Int32 → Prop} (h : post 0) : wX6_isWord S J (nI (wI i 0)) (nI (wI i 1)) (nI (wI i 2)) (nI (wI i 3)) (nI (wI i 4)) (nI (wI i 5)) (nI (wI i 6)) post := by
  unfold wX6_isWord
  exact many6 hi (br_f (by rw [hS.2.1]; decide) h)
/-- numbers -/
theorem v_rel (b : Nat → Nat) (s : Nat) : ∀ j, (∀ k, k < j → 48 ≤ b (s + k) ∧ b (s + k) ≤ 57) → (vmN b s j ≤ 999 ∧ vcN b s j = vmN b s j) ∨ (999 < vmN b s j ∧ vmN b s j ≤ 9999 ∧ vcN b s j = 1000)
  | 0, _ => Or.inl ⟨Nat.zero_le _, rfl⟩
  | j + 1, h => by
    have ih := v_rel b s j (fun k hk => h k (by omega))
    have hd := h j (by omega)
    show ((if 999 < vmN b s j then vmN b s j else 10 * vmN b s j + b (s + j) - 48) ≤ 999 ∧ min 1000 (10 * vcN b s j + b (s + j) - 48) = (if 999 < vmN b s j then vmN b s j else 10 * vmN b s j + b (s + j) - 48)) ∨ (999 < (if 999 < vmN b s j then vmN b s j else 10 * vmN b s j + b (s + j) - 48) ∧ (if 999 < vmN b s j then vmN b s j else 10 * vmN b s j + b (s + j) - 48) ≤ 9999 ∧ min 1000 (10 * vcN b s j + b (s + j) - 48) = 1000)
    rcases ih with ⟨i1, i2⟩ | ⟨i1, i2, i3⟩
    · rw [if_neg (by omega), i2]
      by_cases q : 10 * vmN b s j + b (s + j) - 48 ≤ 999
      · exact Or.inl ⟨q, Nat.min_eq_right (by omega)⟩
      · exact Or.inr ⟨by omega, by omega, Nat.min_eq_left (by omega)⟩
    · rw [if_pos i1, i3]
      exact Or.inr ⟨i1, i2, Nat.min_eq_left (by omega)⟩
def vC (b : Nat → Nat) (L s : Nat) : Nat := vcN b s (tE b L s - s)
def vM (b : Nat → Nat) (L s : Nat) : Nat := vmN b s (tE b L s - s)
theorem kd_2 {s : Nat} (h : kdN b L s = 2) : s < L ∧ isDg b s = true ∧ tE b L s = rn (isDg b) L s := by
  unfold kdN at h
  by_cases a : L ≤ s
  · rw [if_pos a] at h; exact absurd h (by decide)
  · rw [if_neg a] at h
    by_cases c : isLe b s = true
    · rw [if_pos c] at h; exact absurd h (by decide)
    · rw [if_neg c] at h
      by_cases d : isDg b s = true
      · refine ⟨by omega, d, ?_⟩
        unfold tE
        rw [if_neg a, if_neg c, if_pos d]
      · rw [if_neg d] at h
        split at h <;> exact absurd h (by decide)
theorem kd_2' {s : Nat} (h1 : s < L) (h2 : isDg b s = true) : kdN b L s = 2 := by
  have : isLe b s = false := by
    cases e : isLe b s with
    | false => rfl
    | true => rw [ld_no e] at h2; exact absurd h2 (by decide)
  unfold kdN
  rw [if_neg (by omega), if_neg (by rw [this]; decide), if_pos h2]
theorem v_dig {s : Nat} (h : kdN b L s = 2) : ∀ k, k < tE b L s - s → 48 ≤ b (s + k) ∧ b (s + k) ≤ 57 := by
  intro k hk
  obtain ⟨h1, h2, h3⟩ := kd_2 h
  rw [h3] at hk
  exact of_decide_eq_true (rn_in (P := isDg b) (L := L) _ s rfl (s + k) (by omega) (by omega)).2
def nmB (b : Nat → Nat) (L s lo : Nat) (hi : Int32) : Bool := (kdN b L s == 2) && decide (lo ≤ vC b L s ∧ (vC b L s : Int) ≤ hi.toInt)
theorem isNumber5 {T : Bun} {s lo : Nat} {hi : Int32} (hT : Tk b L s T) (hlo : lo ≤ 1000) {post : Int32 → Prop} (h : post (bI (nmB b L s lo hi))) : wX4_isNumber T (nI lo) hi post := by
  obtain ⟨_, m1, m3, m4, m2, m5⟩ := hT
  have kl := kd_le b L s
  have vl := vc_le b s (tE b L s - s)
  unfold wX4_isNumber
  unfold nmB at h
  rw [m2, show nI (kdN b L s) = (2 : Int32) ↔ kdN b L s = 2 from nI_eq (b := 2) (by omega) (by decide)]
  refine ⟨fun z => ?_, fun z => ?_⟩
  · rw [m5 z, fa_lt, fa_lt, nI_toInt (by omega), nI_toInt (by omega)]
    rw [beq_iff_eq.mpr z, Bool.true_and] at h
    unfold vC at h
    refine ⟨fun q => ?_, fun q => ⟨fun q2 => ?_, fun q2 => ?_⟩⟩
    · rw [decide_eq_false (by omega)] at h; exact h
    · rw [decide_eq_false (by omega)] at h; exact h
    · rw [decide_eq_true (by omega)] at h; exact h
  · rw [beq_eq_false_iff_ne.mpr z] at h; exact h
theorem vC_M {s lo : Nat} {hi : Int32} (hh : hi.toInt ≤ 999) (h : nmB b L s lo hi = true) : vC b L s = vM b L s ∧ kdN b L s = 2 ∧ lo ≤ vC b L s ∧ (vC b L s : Int) ≤ hi.toInt := by
  unfold nmB at h
  rw [Bool.and_eq_true, beq_iff_eq] at h
  have d := of_decide_eq_true h.2
  refine ⟨?_, h.1, d.1, d.2⟩
  unfold vC vM at *
  rcases v_rel b s _ (v_dig h.1) with ⟨i1, i2⟩ | ⟨i1, i2, i3⟩
  · exact i2
  · rw [i3] at d; omega
theorem number6 {S : Bun} {J : Lon} {s lo : Nat} {hi : Int32} (hS : Sy b L s S) (hlo : lo ≤ 1000) (hh : hi.toInt ≤ 999) {post : Bun → Prop} (h1 : nmB b L s lo hi = true → ∀ S' : Bun, FrP S S' → S' 0 27 = nI (vC b L s) → Sy b L (nxS b L s) S' → post S') (h0 : nmB b L s lo hi = false → ∀ S' : Bun, FrP S S' → Wg s S' → post S') : wX6_number S J (nI lo) hi post := by
  obtain ⟨m, m1, m2, m3, m4⟩ := id hS
  have te := tE_le (b := b) m1
  have L120 := m.2.2.1
  unfold wX6_number
  rw [m2]
  refine br_t m4 (dg6 m (by omega) ?_)
  rintro _ rfl
  have S17s : ∀ x : Int32, Sy b L s (up S 0 27 x) ∧ FrP S (up S 0 27 x) := by
    intro x
    have fr : FrP S (up S 0 27 x) := frp_0 (FrP.rfl' S) (Or.inr (Or.inr (Or.inl rfl)))
    exact ⟨⟨m.fr fr, m1, by rw [up_ki (by decide)]; exact m2, by rw [up_ki (by decide)]; exact m3, by rw [up_ki (by decide)]; exact m4⟩, fr⟩
  have good : ∀ x : Int32, nmB b L s lo hi = true → x = nI (vM b L s) → wX6_needs (up S 0 27 x) J 1 (fun S24 => post S24) := by
    rintro _ hn rfl
    obtain ⟨q1, q2⟩ := S17s (nI (vM b L s))
    refine needs_t q1 (fun S' v1 v2 v3 => h1 hn S' (q2.tr v1) ?_ v3)
    rw [v2, up_ss, (vC_M hh hn).1]
  have bad : ∀ x : Int32, nmB b L s lo hi = false → wX6_needs (up S 0 27 x) J 0 (fun S24 => post S24) := by
    intro x hn
    obtain ⟨q1, q2⟩ := S17s x
    exact needs_f q1 (fun S' v1 v2 => h0 hn S' (q2.tr v1) v2)
  cases hd : (decide (s < L) && isDg b s) with
  | false =>
    have kn : kdN b L s ≠ 2 := fun z => by
      obtain ⟨a1, a2, _⟩ := kd_2 z
      rw [decide_eq_true a1, a2] at hd
      exact absurd hd (by decide)
    have hn : nmB b L s lo hi = false := by unfold nmB; rw [beq_eq_false_iff_ne.mpr kn, Bool.false_and]
    refine wl_inv2 (fun x y => True) (fun _ _ => 0) (fun x y KK _ _ => ?_) trivial
    refine wj ⟨fun z => ?_, fun z => br_t rfl ?_⟩
    · rintro _ rfl
      exact wj (br_t rfl (bad x hn))
    · rintro _ rfl
      exact wj (br_t rfl (bad x hn))
  | true =>
    rw [Bool.and_eq_true] at hd
    have k2 : kdN b L s = 2 := kd_2' (of_decide_eq_true hd.1) hd.2
    have dg := v_dig k2
    refine wl_up2 (fun j x y => x = nI (vmN b s j) ∧ y = nI (s + j)) (tE b L s - s) ?_ (i := 0) (by omega) ⟨rfl, rfl⟩
    rintro j x y KK hj ⟨rfl, rfl⟩ hKK
    have vr := v_rel b s j (fun k hk => dg k (by omega))
    refine wj ⟨fun z => ?_, fun z => br_f (by decide) ?_⟩ <;> rw [m3, show nI (tE b L s) ≤ nI (s + j) ↔ tE b L s ≤ s + j from nI_leI (by omega) (by omega)] at z
    · obtain rfl : j = tE b L s - s := by omega
      rintro _ rfl
      refine wj (br_f (by decide) ?_)
      have vm9 : vmN b s (tE b L s - s) ≤ 9999 := by omega
      have w1 : (nI lo).toInt64.toInt = lo := by rw [w64, nI_toInt (by omega)]
      have w2 : hi.toInt64.toInt = hi.toInt := w64 hi
      have w3 : (nI (vmN b s (tE b L s - s))).toInt = vmN b s (tE b L s - s) := nI_toInt (by omega)
      refine in_i (fun p1 p2 => br_f (by decide) (good _ ?_ rfl)) (fun p => br_t rfl (bad _ ?_))
      · rw [w1, w3] at p1; rw [w2, w3] at p2
        unfold nmB
        rw [beq_iff_eq.mpr k2, Bool.true_and]
        refine decide_eq_true ?_
        unfold vC
        rcases vr with ⟨i1, i2⟩ | ⟨i1, i2, i3⟩
        · rw [i2]; omega
        · omega
      · rw [w1, w2, w3] at p
        unfold nmB
        rw [beq_iff_eq.mpr k2, Bool.true_and]
        refine decide_eq_false ?_
        unfold vC
        rcases vr with ⟨i1, i2⟩ | ⟨i1, i2, i3⟩
        · rw [i2]; omega
        · rw [i3]; omega
    · have hlt : j < tE b L s - s := by omega
      have dj := dg j hlt
      have vm9 : vmN b s j ≤ 9999 := by omega
      rw [show nI (vmN b s j) ≤ (999 : Int32) ↔ vmN b s j ≤ 999 from nI_leI (b := 999) (by omega) (by decide)]
      refine ⟨fun q => ⟨vp_in_nI (by omega) (by decide), ?_⟩, fun q => ?_⟩
      · rw [tn_nI (n := s + j) (by omega), m.2.1 (s + j) (by omega)]
        rintro _ rfl _ rfl
        refine hKK _ _ hlt ⟨?_, by rw [nI_1]; rfl⟩
        show _ = nI (if 999 < vmN b s j then vmN b s j else 10 * vmN b s j + b (s + j) - 48)
        rw [if_neg (by omega), fa_lit 10, pk_mul, nI_add, fa_lit 48, n_sub (by omega) (by omega)]
      · rintro _ rfl
        refine hKK _ _ hlt ⟨?_, by rw [nI_1]; rfl⟩
        show _ = nI (if 999 < vmN b s j then vmN b s j else 10 * vmN b s j + b (s + j) - 48)
        rw [if_pos (by omega)]
theorem number6w {S : Bun} {J : Lon} {s : Nat} {x y : Int32} (hS : Wg s S) {post : Bun → Prop} (h : post S) : wX6_number S J x y post := by
  unfold wX6_number
  exact br_f (by rw [hS.2.1]; decide) h
end
