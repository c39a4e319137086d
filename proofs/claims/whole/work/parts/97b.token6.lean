/-! THE TEXT: the model's tokens; words; numbers -/
section
variable {b : Nat → Nat} {L : Nat}
def MX (b : Nat → Nat) (L : Nat) (S : Bun) : Prop := S 0 24 = nI L ∧ (∀ k, k < 120 → S 24 k = nI (b k)) ∧ L ≤ 120 ∧ ∀ k, k < 120 → b k ≤ 255
def FrP (S0 S : Bun) : Prop := (∀ r, r ≠ 0 → S r = S0 r) ∧ ∀ k, k ≠ 25 → k ≠ 26 → k ≠ 27 → k ≠ 28 → S 0 k = S0 0 k
theorem FrP.rfl' (S : Bun) : FrP S S := ⟨fun _ _ => rfl, fun _ _ _ _ _ => rfl⟩
theorem FrP.tr {S0 S1 S2 : Bun} (h : FrP S0 S1) (h2 : FrP S1 S2) : FrP S0 S2 := ⟨fun r a => (h2.1 r a).trans (h.1 r a), fun k a b c d => (h2.2 k a b c d).trans (h.2 k a b c d)⟩
theorem frp_0 {S0 S : Bun} (h : FrP S0 S) {k : Nat} {x : Int32} (hk : k = 25 ∨ k = 26 ∨ k = 27 ∨ k = 28) : FrP S0 (up S 0 k x) := ⟨fun r a => by rw [up_k a]; exact h.1 r a, fun q a b c d => by rw [up_ki (by omega)]; exact h.2 q a b c d⟩
theorem MX.fr {S0 S : Bun} (h : MX b L S0) (hf : FrP S0 S) : MX b L S := by
  unfold MX; rw [hf.1 24 (by decide), hf.2 24 (by decide) (by decide) (by decide) (by decide)]; exact h
/-- a token in hand, in the model; and a fault -/
def Sy (b : Nat → Nat) (L s : Nat) (S : Bun) : Prop := MX b L S ∧ s ≤ L ∧ S 0 25 = nI s ∧ S 0 26 = nI (tE b L s) ∧ S 0 28 = 0
def Wg (s : Nat) (S : Bun) : Prop := S 0 25 = nI s ∧ S 0 28 = 1 ∧ s ≤ 120 ∧ ∃ e : Nat, e ≤ 120 ∧ S 0 26 = nI e
theorem byteAt6 {S : Bun} {J : Lon} {k : Nat} (hM : MX b L S) (hk : k < 2 ^ 30) {post : Int32 → Prop} (h1 : k < L → post (nI (b k))) (h0 : L ≤ k → post (-1)) : wX6_byteAt S J (nI k) post := by
  obtain ⟨m1, m2, m3, m4⟩ := hM
  unfold wX6_byteAt
  rw [m1, show nI L ≤ nI k ↔ L ≤ k from nI_leI (by omega) (by omega)]
  refine ⟨h0, fun z => ⟨vp_in_nI (by omega) (by decide), ?_⟩⟩
  rw [tn_nI (by omega), m2 k (by omega)]
  exact h1 (by omega)
theorem letter6 {x : Nat} (hx : x ≤ 255) {post : Int32 → Prop} (h : post (bI (decide (97 ≤ x ∧ x ≤ 122)))) : wX6_isLetter (nI x) post := by
  unfold wX6_isLetter
  refine in_r (lo := 97) (hi := 122) (by decide) (by decide) (by decide) (fun k a c e => ⟨zb1, ?_⟩) (fun a => ⟨zb0, ?_⟩)
  · obtain rfl : x = k := (nI_eq (by omega) (by omega)).mp e
    rw [decide_eq_true ⟨a, c⟩] at h; exact h
  · rw [decide_eq_false (fun z => a x z.1 z.2 rfl)] at h; exact h
theorem letter6n {post : Int32 → Prop} (h : post 0) : wX6_isLetter (-1) post := by
  unfold wX6_isLetter
  exact in_r (lo := 97) (hi := 122) (by decide) (by decide) (by decide) (fun k a c e => absurd (show nI k < 0 by rw [← e]; decide) (nI_pos (by omega))) (fun a => ⟨zb0, h⟩)
theorem digit6 {x : Nat} (hx : x ≤ 255) {post : Int32 → Prop} (h : post (bI (decide (48 ≤ x ∧ x ≤ 57)))) : wX6_isDigit (nI x) post := by
  unfold wX6_isDigit
  refine in_r (lo := 48) (hi := 57) (by decide) (by decide) (by decide) (fun k a c e => ⟨zb1, ?_⟩) (fun a => ⟨zb0, ?_⟩)
  · obtain rfl : x = k := (nI_eq (by omega) (by omega)).mp e
    rw [decide_eq_true ⟨a, c⟩] at h; exact h
  · rw [decide_eq_false (fun z => a x z.1 z.2 rfl)] at h; exact h
theorem digit6n {post : Int32 → Prop} (h : post 0) : wX6_isDigit (-1) post := by
  unfold wX6_isDigit
  exact in_r (lo := 48) (hi := 57) (by decide) (by decide) (by decide) (fun k a c e => absurd (show nI k < 0 by rw [← e]; decide) (nI_pos (by omega))) (fun a => ⟨zb0, h⟩)
/-- a letter, a digit at a place -/
theorem le6 {S : Bun} {J : Lon} {k : Nat} (hM : MX b L S) (hk : k < 2 ^ 30) {post : Int32 → Prop} (h : post (bI (decide (k < L) && isLe b k))) : wX6_byteAt S J (nI k) (fun r => wX6_isLetter r (fun r2 => post r2)) := by
  have m := hM
  refine byteAt6 hM hk (fun z => letter6 (m.2.2.2 k (by have := m.2.2.1; omega)) ?_) (fun z => letter6n ?_)
  · rw [decide_eq_true z, Bool.true_and] at h; exact h
  · rw [decide_eq_false (by omega)] at h; exact h
theorem dg6 {S : Bun} {J : Lon} {k : Nat} (hM : MX b L S) (hk : k < 2 ^ 30) {post : Int32 → Prop} (h : post (bI (decide (k < L) && isDg b k))) : wX6_byteAt S J (nI k) (fun r => wX6_isDigit r (fun r2 => post r2)) := by
  have m := hM
  refine byteAt6 hM hk (fun z => digit6 (m.2.2.2 k (by have := m.2.2.1; omega)) ?_) (fun z => digit6n ?_)
  · rw [decide_eq_true z, Bool.true_and] at h; exact h
  · rw [decide_eq_false (by omega)] at h; exact h
theorem ld_no {k : Nat} (h : isLe b k = true) : isDg b k = false := by
  have h' : 97 ≤ b k ∧ b k ≤ 122 := of_decide_eq_true h
  exact decide_eq_false (by omega)
theorem token6 {S : Bun} {J : Lon} {p : Nat} (hM : MX b L S) (hp : p ≤ L) (e26 : S 0 26 = nI p) (e28 : S 0 28 = 0) {post : Bun → Prop} (h : ∀ S' : Bun, FrP S S' → S' 0 27 = S 0 27 → Sy b L (tS b L p) S' → post S') : wX6_token S J post := by
  have L120 := hM.2.2.1
  unfold wX6_token
  rintro _ rfl
  refine wl_inv (fun S2 => ∃ q, p ≤ q ∧ q ≤ L ∧ rn (isSp b) L q = rn (isSp b) L p ∧ S2 = up S 0 25 (nI q)) (fun S2 => L - (S2 0 25).toNatClampNeg) ?_ ⟨p, Nat.le_refl p, hp, rfl, by rw [e26]⟩
  rintro S2 KK ⟨q, q1, q2, q3, rfl⟩ hKK
  have fr : FrP S (up S 0 25 (nI q)) := frp_0 (FrP.rfl' S) (Or.inl rfl)
  have u25 : up S 0 25 (nI q) 0 25 = nI q := up_ss
  have u24 : up S 0 25 (nI q) 0 24 = nI L := by rw [up_ki (by decide)]; exact hM.1
  have u27 : up S 0 25 (nI q) 0 27 = S 0 27 := up_ki (by decide)
  have u28 : up S 0 25 (nI q) 0 28 = 0 := by rw [up_ki (by decide)]; exact e28
  have hM2 := hM.fr fr
  have step : ∀ x : Nat, x = q + 1 → q < L → isSp b q = true → ∀ S52 : Bun, S52 = up (up S 0 25 (nI q)) 0 25 (nI q + (1 : Int32)) → KK S52 := by
    rintro x hx hqL hsp _ rfl
    rw [up_up, show nI q + (1 : Int32) = nI (q + 1) from nI_1 q]
    refine hKK _ ⟨q + 1, by omega, by omega, by rw [← q3]; exact (rn_step hqL hsp).symm, rfl⟩ ?_
    show L - (up S 0 25 (nI (q + 1)) 0 25).toNatClampNeg < L - (up S 0 25 (nI q) 0 25).toNatClampNeg
    rw [up_ss, up_ss, tn_nI (by omega), tn_nI (by omega)]
    omega
  rw [u25]
  generalize up S 0 25 (nI q) = S2 at fr u25 u24 u27 u28 hM2 step
  -- behind the spaces
  have REST : tS b L p = q → wX6_byteAt S2 J (nI q) (fun r11 => wX6_isLetter r11 (fun r13 => wX6_byteAt S2 J (nI q) (fun r15 => wX6_isDigit r15 (fun r17 => wjoin (σ := Int32) (fun y19 => ∀ S23 : Bun, S23 = up S2 0 26 y19 → wloop (σ := Bun) (fun K25 S24 => wjoin (σ := Unit) (fun _ => ∀ S34 : Bun, S34 = up S24 0 26 ((S24 0 26) + (1 : Int32)) → K25 S34) (fun J31 => wjoin (σ := Unit) (fun _ => ((r17 = 0 → post S24) ∧ (¬ (r17 = 0) → wX6_byteAt S24 J (S24 0 26) (fun r39 => wX6_isDigit r39 (fun r41 => ((r41 = 0 → post S24) ∧ (¬ (r41 = 0) → J31 ()))))))) (fun J36 => ((r13 = 0 → J36 ()) ∧ (¬ (r13 = 0) → wX6_byteAt S24 J (S24 0 26) (fun r45 => wX6_isLetter r45 (fun r47 => ((r47 = 0 → J36 ()) ∧ (¬ (r47 = 0) → J31 ()))))))))) S23) (fun J20 => (((S2 0 24) ≤ nI q → J20 (nI q)) ∧ (¬ ((S2 0 24) ≤ nI q) → J20 (nI q + (1 : Int32)))))))) ) := by
    intro hq
    rw [hq] at h
    refine le6 hM2 (by omega) (dg6 hM2 (by omega) ?_)
    -- the end of the token
    have LOOP : ∀ x0 : Nat, x0 = (if L ≤ q then q else q + 1) → ∀ y19 : Int32, y19 = nI x0 → ∀ S23 : Bun, S23 = up S2 0 26 y19 → wloop (σ := Bun) (fun K25 S24 => wjoin (σ := Unit) (fun _ => ∀ S34 : Bun, S34 = up S24 0 26 ((S24 0 26) + (1 : Int32)) → K25 S34) (fun J31 => wjoin (σ := Unit) (fun _ => ((bI (decide (q < L) && isDg b q) = 0 → post S24) ∧ (¬ (bI (decide (q < L) && isDg b q) = 0) → wX6_byteAt S24 J (S24 0 26) (fun r39 => wX6_isDigit r39 (fun r41 => ((r41 = 0 → post S24) ∧ (¬ (r41 = 0) → J31 ()))))))) (fun J36 => ((bI (decide (q < L) && isLe b q) = 0 → J36 ()) ∧ (¬ (bI (decide (q < L) && isLe b q) = 0) → wX6_byteAt S24 J (S24 0 26) (fun r45 => wX6_isLetter r45 (fun r47 => ((r47 = 0 → J36 ()) ∧ (¬ (r47 = 0) → J31 ()))))))))) S23 := by
      rintro x0 hx0 _ rfl _ rfl
      refine wl_inv (fun S4 => ∃ x, x0 ≤ x ∧ x ≤ L ∧ S4 = up S2 0 26 (nI x) ∧ (q < L → isLe b q = true → rn (isLe b) L x = rn (isLe b) L q) ∧ (q < L → isDg b q = true → rn (isDg b) L x = rn (isDg b) L q) ∧ (¬ (q < L ∧ (isLe b q = true ∨ isDg b q = true)) → x = x0)) (fun S4 => L - (S4 0 26).toNatClampNeg) ?_ ⟨x0, Nat.le_refl _, by rw [hx0]; split <;> omega, rfl, fun z1 z2 => ?_, fun z1 z2 => ?_, fun _ => rfl⟩
      · rintro S4 KK2 ⟨x, x1, x2, rfl, xl, xd, xn⟩ hKK2
        have w26 : up S2 0 26 (nI x) 0 26 = nI x := up_ss
        have fr4 : FrP S (up S2 0 26 (nI x)) := frp_0 fr (Or.inr (Or.inl rfl))
        have hM4 := hM.fr fr4
        have fin : tE b L q = x → post (up S2 0 26 (nI x)) := by
          intro te
          refine h _ fr4 (by rw [up_ki (by decide)]; exact u27) ⟨hM4, q2, ?_, ?_, ?_⟩
          · rw [up_ki (by decide)]; exact u25
          · rw [w26, te]
          · rw [up_ki (by decide)]; exact u28
        have more : x < L → (isLe b q = true → isLe b x = true) → (isDg b q = true → isDg b x = true) → q < L → (isLe b q = true ∨ isDg b q = true) → ∀ S34 : Bun, S34 = up (up S2 0 26 (nI x)) 0 26 (nI x + (1 : Int32)) → KK2 S34 := by
          rintro hxL a1 a2 hqL hor _ rfl
          rw [up_up, show nI x + (1 : Int32) = nI (x + 1) from nI_1 x]
          refine hKK2 _ ⟨x + 1, by omega, by omega, rfl, fun z1 z2 => by rw [← xl z1 z2]; exact (rn_step hxL (a1 z2)).symm, fun z1 z2 => by rw [← xd z1 z2]; exact (rn_step hxL (a2 z2)).symm, fun z => absurd ⟨hqL, hor⟩ z⟩ ?_
          show L - (up S2 0 26 (nI (x + 1)) 0 26).toNatClampNeg < L - (up S2 0 26 (nI x) 0 26).toNatClampNeg
          rw [up_ss, up_ss, tn_nI (by omega), tn_nI (by omega)]
          omega
        rw [w26]
        refine wj (wj ?_)
        refine br_b (fun nl => ?_) (fun yl => ?_)
        · refine br_b (fun nd => fin ?_) (fun yd => ?_)
          · by_cases hqL : q < L
            · rw [decide_eq_true hqL, Bool.true_and] at nl nd
              rw [xn (fun z => by rcases z.2 with y | y; rw [nl] at y; exact absurd y (by decide); rw [nd] at y; exact absurd y (by decide)), hx0, if_neg (by omega)]
              unfold tE
              rw [if_neg (by omega), if_neg (by rw [nl]; decide), if_neg (by rw [nd]; decide)]
            · rw [xn (fun z => hqL z.1), hx0, if_pos (by omega)]
              exact if_pos (by omega)
          · rw [Bool.and_eq_true] at yd
            have hqL : q < L := of_decide_eq_true yd.1
            rw [decide_eq_true hqL, Bool.true_and] at nl
            refine dg6 hM4 (by omega) (br_b (fun z => fin ?_) (fun z => ?_))
            · unfold tE
              rw [if_neg (by omega), if_neg (by rw [nl]; decide), if_pos yd.2, ← xd hqL yd.2]
              refine rn_stop ?_
              by_cases hx : x < L
              · rw [decide_eq_true hx, Bool.true_and] at z; exact Or.inr z
              · exact Or.inl (by omega)
            · rw [Bool.and_eq_true] at z
              exact more (of_decide_eq_true z.1) (fun y => by rw [nl] at y; exact absurd y (by decide)) (fun _ => z.2) hqL (Or.inr yd.2)
        · rw [Bool.and_eq_true] at yl
          have hqL : q < L := of_decide_eq_true yl.1
          have nd := ld_no yl.2
          refine le6 hM4 (by omega) (br_b (fun z => ?_) (fun z => ?_))
          · have stop : rn (isLe b) L x = x := by
              refine rn_stop ?_
              by_cases hx : x < L
              · rw [decide_eq_true hx, Bool.true_and] at z; exact Or.inr z
              · exact Or.inl (by omega)
            refine br_b (fun _ => fin ?_) (fun y => ?_)
            · unfold tE
              rw [if_neg (by omega), if_pos yl.2, ← xl hqL yl.2]; exact stop
            · rw [nd, Bool.and_false] at y; exact absurd y (by decide)
          · rw [Bool.and_eq_true] at z
            exact more (of_decide_eq_true z.1) (fun _ => z.2) (fun y => by rw [nd] at y; exact absurd y (by decide)) hqL (Or.inl yl.2)
      · rw [hx0, if_neg (by omega)]; exact (rn_step z1 z2).symm
      · rw [hx0, if_neg (by omega)]; exact (rn_step z1 z2).symm
    rw [u24, show nI L ≤ nI q ↔ L ≤ q from nI_leI (by omega) (by omega)]
    refine wj ⟨fun z => LOOP q (by rw [if_pos z]) _ rfl, fun z => LOOP (q + 1) (by rw [if_neg z]) _ (nI_1 q)⟩
  refine byteAt6 hM2 (by omega) (fun z => ?_) (fun z => ?_)
  · have hb := hM.2.2.2 q (by omega)
    rw [show nI (b q) = (32 : Int32) ↔ b q = 32 from nI_eq (b := 32) (by omega) (by decide)]
    refine ⟨fun z2 => step (q + 1) rfl z (show isSp b q = true from beq_iff_eq.mpr z2), fun z2 => REST ?_⟩
    unfold tS; rw [← q3]; exact rn_stop (Or.inr (beq_eq_false_iff_ne.mpr z2))
  · refine br_f (by decide) (REST ?_)
    unfold tS; rw [← q3]; exact rn_stop (Or.inl z)
def nxS (b : Nat → Nat) (L s : Nat) : Nat := tS b L (tE b L s)
theorem tE_le {s : Nat} (h : s ≤ L) : s ≤ tE b L s ∧ tE b L s ≤ L := by
  unfold tE
  split
  · omega
  · split
    · exact rn_le h
    · split
      · exact rn_le h
      · omega
theorem nx_le {s : Nat} (h : s ≤ L) : s ≤ nxS b L s ∧ nxS b L s ≤ L := by
  have a := tE_le (b := b) h
  have c := rn_le (P := isSp b) (L := L) (p := tE b L s) a.2
  unfold nxS tS
  omega
theorem needs_t {S : Bun} {J : Lon} {s : Nat} (hS : Sy b L s S) {post : Bun → Prop} (h : ∀ S' : Bun, FrP S S' → S' 0 27 = S 0 27 → Sy b L (nxS b L s) S' → post S') : wX6_needs S J 1 post := by
  obtain ⟨m, m1, m2, m3, m4⟩ := hS
  unfold wX6_needs
  refine wj (br_t m4 (br_f (by decide) ⟨zb0, ?_⟩))
  rw [up_same m4]
  rintro _ rfl
  exact br_t m4 (token6 m (tE_le m1).2 m3 m4 h)
theorem needs_f {S : Bun} {J : Lon} {s : Nat} (hS : Sy b L s S) {post : Bun → Prop} (h : ∀ S' : Bun, FrP S S' → Wg s S' → post S') : wX6_needs S J 0 post := by
  obtain ⟨m, m1, m2, m3, m4⟩ := hS
  unfold wX6_needs
  refine wj (br_t m4 (br_t rfl ⟨zb1, ?_⟩))
  rintro _ rfl
  refine br_f (by rw [up_ss]; decide) (h _ (frp_0 (FrP.rfl' S) (Or.inr (Or.inr (Or.inr rfl)))) ⟨by rw [up_ki (by decide)]; exact m2, up_ss, by have := m.2.2.1; omega, tE b L s, by have := m.2.2.1; have := tE_le (b := b) m1; omega, by rw [up_ki (by decide)]; exact m3⟩)
theorem needs_w {S : Bun} {J : Lon} {s : Nat} {x : Int32} (hS : Wg s S) {post : Bun → Prop} (h : post S) : wX6_needs S J x post := by
  unfold wX6_needs
  refine wj (br_f (by rw [hS.2.1]; decide) ⟨zb1, ?_⟩)
  rw [up_same hS.2.1]
  rintro _ rfl
  exact br_f (by rw [hS.2.1]; decide) h
end
