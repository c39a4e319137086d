/-! THE TEXT: joins, teams, items -/
section
variable {b : Nat → Nat} {L : Nat}
def FrI (S0 S : Bun) : Prop := (∀ r, r ≠ 0 → r ≠ 1 → S r = S0 r) ∧ ∀ k, k ≠ 25 → k ≠ 26 → k ≠ 27 → k ≠ 28 → S 0 k = S0 0 k
theorem FrP.i {S0 S : Bun} (h : FrP S0 S) : FrI S0 S := ⟨fun r a _ => h.1 r a, h.2⟩
theorem FrI.tr {S0 S1 S2 : Bun} (h : FrI S0 S1) (h2 : FrI S1 S2) : FrI S0 S2 := ⟨fun r a c => (h2.1 r a c).trans (h.1 r a c), fun k a b c d => (h2.2 k a b c d).trans (h.2 k a b c d)⟩
theorem fri_1 {S0 S : Bun} (h : FrI S0 S) {k : Nat} {x : Int32} : FrI S0 (up S 1 k x) := ⟨fun r a c => by rw [up_k c]; exact h.1 r a c, fun q a b c d => by rw [up_k (by decide)]; exact h.2 q a b c d⟩
def ItR (b : Nat → Nat) (L s : Nat) (S : Bun) (r : Int32) (T1 P1 S1 : Bun) : Prop := FrI S S1 ∧ ((r = 1 ∧ ∃ s', s + 1 ≤ s' ∧ Tk b L s' T1 ∧ Sy b L s' S1 ∧ WF P1 ∧ RP P1 (S1 1)) ∨ (r = 0 ∧ ∃ s', Tk b L s' T1 ∧ Wg s' S1))
theorem Sy.one {s : Nat} {S : Bun} (h : Sy b L s S) {k : Nat} {x : Int32} : Sy b L s (up S 1 k x) := by
  obtain ⟨⟨m1, m2, m3, m4⟩, a, c, d, e⟩ := h
  exact ⟨⟨by rw [up_k (by decide)]; exact m1, by rw [up_k (by decide)]; exact m2, m3, m4⟩, a, by rw [up_k (by decide)]; exact c, by rw [up_k (by decide)]; exact d, by rw [up_k (by decide)]; exact e⟩
theorem nx_gt {s : Nat} (h : s < L) : s + 1 ≤ nxS b L s := by
  have te : s + 1 ≤ tE b L s := by
    unfold tE
    rw [if_neg (by omega)]
    by_cases a : isLe b s = true
    · rw [if_pos a, rn_step h a]
      exact (rn_le (by omega)).1
    · rw [if_neg a]
      by_cases c : isDg b s = true
      · rw [if_pos c, rn_step h c]
        exact (rn_le (by omega)).1
      · rw [if_neg c]; exact Nat.le_refl _
  have := (rn_le (P := isSp b) (L := L) (p := tE b L s) (tE_le (by omega)).2).1
  unfold nxS tS
  omega
/-- words are told apart -/
theorem wd_one {s i j : Nat} (hi : i < 14) (hj : j < 14) (h1 : wdB b L s i = true) (h2 : wdB b L s j = true) : i = j := by
  have key : ∀ i, i < 14 → ∀ j, j < 14 → (i == j || !(lnW i == lnW j) || ((List.range 7).any (fun k => decide (k < lnW i) && !(wI i k == wI j k)))) = true := by decide
  have q := key i hi j hj
  unfold wdB at h1 h2
  rw [Bool.and_eq_true, beq_iff_eq] at h1 h2
  have el : lnW i = lnW j := h1.1.symm.trans h2.1
  rw [Bool.or_eq_true, Bool.or_eq_true] at q
  rcases q with (q | q) | q
  · exact eq_of_beq q
  · rw [el, beq_self_eq_true] at q; exact absurd q (by decide)
  · obtain ⟨k, _, hk⟩ := List.any_eq_true.mp q
    rw [Bool.and_eq_true] at hk
    have k1 : k < lnW i := of_decide_eq_true hk.1
    have a1 : b (s + k) = wI i k := by
      by_cases z : b (s + k) = wI i k
      · exact z
      · rw [allW_f k1 z] at h1; exact absurd h1.2 (by decide)
    have a2 : b (s + k) = wI j k := by
      by_cases z : b (s + k) = wI j k
      · exact z
      · rw [allW_f (by omega) z] at h2; exact absurd h2.2 (by decide)
    rw [← a1, ← a2, beq_self_eq_true] at hk
    exact absurd hk.2 (by decide)
theorem wd_no {s i j : Nat} (hi : i < 14) (hj : j < 14) (h1 : wdB b L s i = true) (hne : j ≠ i) : wdB b L s j = false := by
  cases e : wdB b L s j with
  | false => rfl
  | true => exact absurd (wd_one hj hi e h1) hne
def kwN (b : Nat → Nat) (L s : Nat) : Option Nat := if wdB b L s 7 then some 0 else if wdB b L s 8 then some 1 else if wdB b L s 9 then some 2 else if wdB b L s 10 then some 3 else if wdB b L s 11 then some 4 else if wdB b L s 12 then some 5 else none
theorem kw_lt {s k : Nat} (h : kwN b L s = some k) : k < 6 ∧ wdB b L s (7 + k) = true := by
  unfold kwN at h
  by_cases a7 : wdB b L s 7 = true
  · rw [if_pos a7] at h; obtain rfl := Option.some.inj h; exact ⟨by decide, a7⟩
  rw [if_neg a7] at h
  by_cases a8 : wdB b L s 8 = true
  · rw [if_pos a8] at h; obtain rfl := Option.some.inj h; exact ⟨by decide, a8⟩
  rw [if_neg a8] at h
  by_cases a9 : wdB b L s 9 = true
  · rw [if_pos a9] at h; obtain rfl := Option.some.inj h; exact ⟨by decide, a9⟩
  rw [if_neg a9] at h
  by_cases a10 : wdB b L s 10 = true
  · rw [if_pos a10] at h; obtain rfl := Option.some.inj h; exact ⟨by decide, a10⟩
  rw [if_neg a10] at h
  by_cases a11 : wdB b L s 11 = true
  · rw [if_pos a11] at h; obtain rfl := Option.some.inj h; exact ⟨by decide, a11⟩
  rw [if_neg a11] at h
  by_cases a12 : wdB b L s 12 = true
  · rw [if_pos a12] at h; obtain rfl := Option.some.inj h; exact ⟨by decide, a12⟩
  rw [if_neg a12] at h
  cases h
theorem kw_none {s i : Nat} (hi : i < 7) (h : wdB b L s i = true) : kwN b L s = none := by
  cases e : kwN b L s with
  | none => rfl
  | some k =>
    have := kw_lt e
    have := wd_one (by omega) (by omega) h this.2
    omega
theorem kindIn5 {T : Bun} {s : Nat} (hT : Tk b L s T) {post : Int32 → Prop} (h : post (gI (kwN b L s))) : wX4_kindInHand T post := by
  unfold wX4_kindInHand
  unfold kwN at h
  refine isWord5 (i := 7) (by decide) hT (br_b (fun a7 => ?_) (fun a7 => by rw [if_pos a7] at h; exact h))
  rw [if_neg (by rw [a7]; decide)] at h
  refine isWord5 (i := 8) (by decide) hT (br_b (fun a8 => ?_) (fun a8 => by rw [if_pos a8] at h; exact h))
  rw [if_neg (by rw [a8]; decide)] at h
  refine isWord5 (i := 9) (by decide) hT (br_b (fun a9 => ?_) (fun a9 => by rw [if_pos a9] at h; exact h))
  rw [if_neg (by rw [a9]; decide)] at h
  refine isWord5 (i := 10) (by decide) hT (br_b (fun a10 => ?_) (fun a10 => by rw [if_pos a10] at h; exact h))
  rw [if_neg (by rw [a10]; decide)] at h
  refine isWord5 (i := 11) (by decide) hT (br_b (fun a11 => ?_) (fun a11 => by rw [if_pos a11] at h; exact h))
  rw [if_neg (by rw [a11]; decide)] at h
  refine isWord5 (i := 12) (by decide) hT (br_b (fun a12 => ?_) (fun a12 => by rw [if_pos a12] at h; exact h))
  rw [if_neg (by rw [a12]; decide)] at h
  exact h
theorem kindHere6 {S : Bun} {J : Lon} {s : Nat} (hS : Sy b L s S) {post : Int32 → Prop} (h : post (gI (kwN b L s))) : wX6_kindHere S J post := by
  unfold wX6_kindHere
  unfold kwN at h
  refine isWord6 (i := 7) (by decide) hS (br_b (fun a7 => ?_) (fun a7 => by rw [if_pos a7] at h; exact h))
  rw [if_neg (by rw [a7]; decide)] at h
  refine isWord6 (i := 8) (by decide) hS (br_b (fun a8 => ?_) (fun a8 => by rw [if_pos a8] at h; exact h))
  rw [if_neg (by rw [a8]; decide)] at h
  refine isWord6 (i := 9) (by decide) hS (br_b (fun a9 => ?_) (fun a9 => by rw [if_pos a9] at h; exact h))
  rw [if_neg (by rw [a9]; decide)] at h
  refine isWord6 (i := 10) (by decide) hS (br_b (fun a10 => ?_) (fun a10 => by rw [if_pos a10] at h; exact h))
  rw [if_neg (by rw [a10]; decide)] at h
  refine isWord6 (i := 11) (by decide) hS (br_b (fun a11 => ?_) (fun a11 => by rw [if_pos a11] at h; exact h))
  rw [if_neg (by rw [a11]; decide)] at h
  refine isWord6 (i := 12) (by decide) hS (br_b (fun a12 => ?_) (fun a12 => by rw [if_pos a12] at h; exact h))
  rw [if_neg (by rw [a12]; decide)] at h
  exact h
theorem kindHere6w {S : Bun} {J : Lon} {s : Nat} (hS : Wg s S) {post : Int32 → Prop} (h : post (-1)) : wX6_kindHere S J post := by
  unfold wX6_kindHere
  exact isWord6w (i := 7) (by decide) hS (br_t rfl (isWord6w (i := 8) (by decide) hS (br_t rfl (isWord6w (i := 9) (by decide) hS (br_t rfl (isWord6w (i := 10) (by decide) hS (br_t rfl (isWord6w (i := 11) (by decide) hS (br_t rfl (isWord6w (i := 12) (by decide) hS (br_t rfl h)))))))))))
theorem nHere6 {S : Bun} {J : Lon} {s : Nat} (hS : Sy b L s S) {post : Int32 → Prop} (h1 : kdN b L s = 2 → post (nI (vM b L s))) (h0 : kdN b L s ≠ 2 → post (-1)) : wX6_numberHere S J post := by
  obtain ⟨m, m1, m2, m3, m4⟩ := id hS
  have te := tE_le (b := b) m1
  have L120 := m.2.2.1
  unfold wX6_numberHere
  rw [m2]
  rintro _ rfl
  refine wl_up2 (fun j x y => (kdN b L s = 2 → x = nI (vmN b s j)) ∧ y = nI (s + j)) (tE b L s - s) ?_ (i := 0) (by omega) ⟨fun _ => rfl, rfl⟩
  rintro j x y KK hj ⟨k1, rfl⟩ hKK
  refine ⟨fun z => ?_, fun z => ?_⟩ <;> rw [m3, show nI (tE b L s) ≤ nI (s + j) ↔ tE b L s ≤ s + j from nI_leI (by omega) (by omega)] at z
  · obtain rfl : j = tE b L s - s := by omega
    refine br_t m4 (dg6 m (by omega) (br_b (fun q => h0 (fun k => ?_)) (fun q => ?_)))
    · obtain ⟨a1, a2, _⟩ := kd_2 k
      rw [decide_eq_true a1, a2] at q
      exact absurd q (by decide)
    · rw [Bool.and_eq_true] at q
      have k2 : kdN b L s = 2 := kd_2' (of_decide_eq_true q.1) q.2
      rw [k1 k2]; exact h1 k2
  · have hlt : j < tE b L s - s := by omega
    have nx : ∀ x' : Int32, (kdN b L s = 2 → x' = nI (vmN b s (j + 1))) → ∀ x17 : Int32, x17 = nI (s + j) + (1 : Int32) → KK (x', x17) := by
      rintro x' hx' _ rfl
      exact hKK _ _ hlt ⟨hx', by rw [nI_1]; rfl⟩
    have vb : kdN b L s = 2 → vmN b s j ≤ 9999 ∧ 48 ≤ b (s + j) ∧ b (s + j) ≤ 57 := fun k2 => by
      have := v_rel b s j (fun k hk => v_dig k2 k (by omega))
      exact ⟨by omega, v_dig k2 j hlt⟩
    refine ⟨fun q => ⟨vp_in_nI (by omega) (by decide), ?_⟩, fun q => nx x (fun k2 => ?_)⟩
    · rw [tn_nI (n := s + j) (by omega), m.2.1 (s + j) (by omega)]
      rintro _ rfl
      refine nx _ (fun k2 => ?_)
      obtain ⟨b1, b2, b3⟩ := vb k2
      rw [k1 k2] at q ⊢
      have q' := (nI_leI (b := 999) (by omega) (by decide)).mp q
      show _ = nI (if 999 < vmN b s j then vmN b s j else 10 * vmN b s j + b (s + j) - 48)
      rw [if_neg (by omega), fa_lit 10, pk_mul, nI_add, fa_lit 48, n_sub (by omega) (by omega)]
    · obtain ⟨b1, b2, b3⟩ := vb k2
      rw [k1 k2] at q ⊢
      have q' : ¬ vmN b s j ≤ 999 := fun y => q (nI_le (b := 999) y (by decide))
      show _ = nI (if 999 < vmN b s j then vmN b s j else 10 * vmN b s j + b (s + j) - 48)
      rw [if_pos (by omega)]
theorem nHere6w {S : Bun} {J : Lon} {s : Nat} (hS : Wg s S) {post : Int32 → Prop} (h : post (-1)) : wX6_numberHere S J post := by
  obtain ⟨w1, w2, w3, e, w4, w5⟩ := hS
  unfold wX6_numberHere
  rw [w1]
  rintro _ rfl
  refine wl_up2 (fun j x y => y = nI (s + j)) (e - s) ?_ (i := 0) (by omega) rfl
  rintro j x y KK hj rfl hKK
  refine ⟨fun z => br_f (by rw [w2]; decide) h, fun z => ?_⟩
  rw [w5, show nI e ≤ nI (s + j) ↔ e ≤ s + j from nI_leI (by omega) (by omega)] at z
  have hlt : j < e - s := by omega
  refine ⟨fun q => ⟨vp_in_nI (by omega) (by decide), ?_⟩, fun q => ?_⟩
  · rintro _ rfl _ rfl
    exact hKK _ _ hlt (by rw [nI_1]; rfl)
  · rintro _ rfl
    exact hKK _ _ hlt (by rw [nI_1]; rfl)
/-- new teams -/
theorem addTeam5 {P : Bun} {m : Nat} {k p : Int32} (hm : m < 6) (em : P 0 1 = nI m) {post : Int32 → Bun → Prop} (h : post (nI m) (newT P m k p)) : wX1_addTeam P k p post := by
  have vn : vp_in (nI m) 6 := vp_in_nI hm (by decide)
  unfold wX1_addTeam
  rw [em]
  rintro _ rfl
  refine ⟨vn, ?_⟩
  rintro _ rfl
  refine ⟨vn, ?_⟩
  rintro _ rfl
  rintro _ rfl
  rw [up_k (by decide), up_k (by decide), em, i1, nI_add, tn_nI (by omega)]
  exact h
theorem newTeam6 {S : Bun} {J : Lon} {m : Nat} {k p : Int32} (hm : m < 6) (es : S 1 1 = nI m) {post : Int32 → Bun → Prop} (h : ∀ x, post x (newT6 S m k p)) : wX6_newTeam S J k p post := by
  unfold wX6_newTeam
  rw [c1', es, ix_t hm, tn_nI (by omega)]
  refine ⟨vin1, vp_in_nI (by omega) (by decide), ?_⟩
  rintro _ rfl
  rw [up_ki (by omega), es, ix_t1 hm, tn_nI (by omega)]
  refine ⟨vin1, vp_in_nI (by omega) (by decide), ?_⟩
  rintro _ rfl
  rw [up_ki (by omega), up_ki (by omega), es, i1, nI_add]
  refine ⟨vin1, vin1, ?_⟩
  rintro _ rfl
  rw [up_ss]
  exact ⟨vin1, h _⟩
/-- a field's facts -/
theorem cl_lt : ∀ (f s least set : Nat), set < 65536 → (clN b L f s least set).2.2 < 65536
  | 0, _, _, _, h => h
  | f + 1, s, least, set, h => by
    cases e : nmB b L s least 15 with
    | false => rw [cl_f e]; exact h
    | true =>
      obtain ⟨v1, v2, v3, v4⟩ := vC_M (by rw [t15]; decide) e
      rw [t15] at v4
      have h2 : set ||| 2 ^ vC b L s < 65536 := Nat.or_lt_two_pow (n := 16) h (Nat.pow_lt_pow_right (by decide) (by omega))
      by_cases k2 : kdN b L (nxS b L s) = 2
      · rw [cl_m e k2]; exact cl_lt f _ _ _ h2
      · rw [cl_e e k2]; exact h2
theorem clR_ok {s i w : Nat} {r : Bool × Nat × Nat} (hw : w < 2) (h : clR b L s i = r) : okM w (nI r.2.2) := by
  have lt : r.2.2 < 65536 := by
    rw [← h]
    unfold clR
    split
    · exact cl_lt 17 _ _ _ (by decide)
    · exact (by decide : 0 < 65536)
  obtain ⟨a, c⟩ := okM_a w hw
  unfold okM
  rw [a, c, nI_toInt (by omega)]
  omega
theorem mkR_ok {s i w : Nat} {r : Bool × Nat × Int32} (hw : 2 ≤ w) (hw2 : w < 5) (h : mkR b L s i (tbMost w) (tbFirst w) = r) : okM w r.2.2 := by
  have dl : ∀ w, w < 5 → okM w (tbFirst w) := by unfold okM; decide
  have ll : ∀ w, w < 5 → (tbLeast w).toInt ≤ 0 := by decide
  rw [← h]
  cases e : wdB b L s i with
  | false => rw [mk_n e]; exact dl w hw2
  | true =>
    cases e2 : nmB b L (nxS b L s) 0 (tbMost w) with
    | false => rw [mk_f e e2]; exact dl w hw2
    | true =>
      rw [mk_t e e2]
      obtain ⟨v1, v2, v3, v4⟩ := vC_M (most_le w hw2 hw) e2
      have vl := vc_le b (nxS b L s) (tE b L (nxS b L s) - nxS b L s)
      have vl' : vC b L (nxS b L s) ≤ 1000 := vl
      unfold okM
      show _ ≤ (nI (vC b L (nxS b L s))).toInt ∧ (nI (vC b L (nxS b L s))).toInt ≤ _
      rw [nI_toInt (by omega)]
      have := ll w hw2
      omega
theorem fld_ok {s n : Nat} {r1 r2 : Bool × Nat × Nat} {r3 r4 r5 : Bool × Nat × Int32} {P P' S S43 : Bun} (hq : fQ b L s r1 r2 r3 r4 r5) (hn : n < 6) (en : P 0 0 = nI n) (hW : WF P) (hR : RP P (S 1)) (hP : newF P P' n) (hN : nwF6 S S43 n) : WF (fin5 r1 r2 r3 r4 r5 P' n) ∧ RP (fin5 r1 r2 r3 r4 r5 P' n) (fin6 r1 r2 r3 r4 r5 S43 n 1) := by
  obtain ⟨e1, e2, e3, e4, e5⟩ := hq
  constructor
  · unfold fin5
    exact (((((hW.newF hn en hP).mark hn (by decide) (clR_ok (by decide) e1)).mark hn (by decide) (clR_ok (by decide) e2)).mark hn (by decide) (mkR_ok (w := 2) (by decide) (by decide) e3)).mark hn (by decide) (mkR_ok (w := 3) (by decide) (by decide) e4)).mark hn (by decide) (mkR_ok (w := 4) (by decide) (by decide) e5)
  · obtain ⟨p1, p2, p3, p4, p5, p6⟩ := hN
    obtain ⟨a1, a2, a3, a4, a5, a6⟩ := id hP
    obtain ⟨q1, q2, q3, q4, q5⟩ := hR
    have base : RP P' (S43 1) := ⟨by rw [p2, a1], by rw [p3, a2]; exact q2, fun k hk => by rw [p4 k hk, a3, q3 k hk], fun f hf => by rw [p5 f hf, a4, q4 f hf], fun t ht => by rw [p6 _ (by omega), p6 _ (by omega), a5, a6]; exact q5 t ht⟩
    unfold fin5 fin6
    exact RP.mark (S := up (up (up (up S43 1 (2 + (6 * n + 0)) (nI r1.2.2)) 1 (2 + (6 * n + 1)) (nI r2.2.2)) 1 (2 + (6 * n + 2)) r3.2.2) 1 (2 + (6 * n + 3)) r4.2.2) (RP.mark (S := up (up (up S43 1 (2 + (6 * n + 0)) (nI r1.2.2)) 1 (2 + (6 * n + 1)) (nI r2.2.2)) 1 (2 + (6 * n + 2)) r3.2.2) (RP.mark (S := up (up S43 1 (2 + (6 * n + 0)) (nI r1.2.2)) 1 (2 + (6 * n + 1)) (nI r2.2.2)) (RP.mark (S := up S43 1 (2 + (6 * n + 0)) (nI r1.2.2)) (RP.mark (S := S43) base (by omega) _) (by omega) _) (by omega) _) (by omega) _) (by omega) _
end
