/-! THE TEXT: tokens -/
section
def isSp (b : Nat → Nat) (k : Nat) : Bool := b k == 32
def isLe (b : Nat → Nat) (k : Nat) : Bool := decide (97 ≤ b k ∧ b k ≤ 122)
def isDg (b : Nat → Nat) (k : Nat) : Bool := decide (48 ≤ b k ∧ b k ≤ 57)
def runN (P : Nat → Bool) (L : Nat) : Nat → Nat → Nat
  | 0 => fun p => p
  | f + 1 => fun p => if p < L ∧ P p = true then runN P L f (p + 1) else p
def rn (P : Nat → Bool) (L p : Nat) : Nat := runN P L (L - p) p
theorem rn_stop {P : Nat → Bool} {L p : Nat} (h : L ≤ p ∨ P p = false) : rn P L p = p := by
  unfold rn
  cases e : L - p with
  | zero => rfl
  | succ f =>
    show (if p < L ∧ P p = true then _ else p) = p
    refine if_neg (fun z => ?_)
    rcases h with h | h
    · omega
    · rw [h] at z; exact absurd z.2 (by decide)
theorem rn_step {P : Nat → Bool} {L p : Nat} (h : p < L) (h2 : P p = true) : rn P L p = rn P L (p + 1) := by
  unfold rn
  obtain ⟨f, e⟩ : ∃ f, L - p = f + 1 := ⟨L - p - 1, by omega⟩
  rw [e, show L - (p + 1) = f by omega]
  show (if p < L ∧ P p = true then _ else p) = _
  rw [if_pos ⟨h, h2⟩]
theorem rn_b {P : Nat → Bool} {L : Nat} : ∀ (d p : Nat), L - p = d → p ≤ L → p ≤ rn P L p ∧ rn P L p ≤ L := by
  intro d
  induction d with
  | zero => intro p e h; rw [rn_stop (Or.inl (by omega))]; omega
  | succ d ih =>
    intro p e h
    cases hb : P p with
    | false => rw [rn_stop (Or.inr hb)]; omega
    | true =>
      rw [rn_step (by omega) hb]
      have := ih (p + 1) (by omega) (by omega)
      omega
theorem rn_le {P : Nat → Bool} {L p : Nat} (h : p ≤ L) : p ≤ rn P L p ∧ rn P L p ≤ L := rn_b _ p rfl h
theorem rn_in {P : Nat → Bool} {L : Nat} : ∀ (d p : Nat), L - p = d → ∀ k, p ≤ k → k < rn P L p → k < L ∧ P k = true := by
  intro d
  induction d with
  | zero => intro p e k k1 k2; rw [rn_stop (Or.inl (by omega))] at k2; omega
  | succ d ih =>
    intro p e k k1 k2
    cases hb : P p with
    | false => rw [rn_stop (Or.inr hb)] at k2; omega
    | true =>
      by_cases ek : k = p
      · rw [ek]; exact ⟨by omega, hb⟩
      · rw [rn_step (by omega) hb] at k2
        exact ih (p + 1) (by omega) k (by omega) k2
def kdN (b : Nat → Nat) (L s : Nat) : Nat := if L ≤ s then 0 else if isLe b s then 1 else if isDg b s then 2 else if b s = 59 then 3 else 4
def tE (b : Nat → Nat) (L s : Nat) : Nat := if L ≤ s then s else if isLe b s then rn (isLe b) L s else if isDg b s then rn (isDg b) L s else s + 1
def tS (b : Nat → Nat) (L p : Nat) : Nat := rn (isSp b) L p
def vcN (b : Nat → Nat) (s : Nat) : Nat → Nat
  | 0 => 0
  | j + 1 => min 1000 (10 * vcN b s j + b (s + j) - 48)
def vmN (b : Nat → Nat) (s : Nat) : Nat → Nat
  | 0 => 0
  | j + 1 => if 999 < vmN b s j then vmN b s j else 10 * vmN b s j + b (s + j) - 48
def TX (b : Nat → Nat) (L : Nat) (T : Bun) : Prop := T 0 1 = nI L ∧ (∀ k, k < 120 → T 1 k = nI (b k)) ∧ L ≤ 120 ∧ ∀ k, k < 120 → b k ≤ 255
/-- a token in hand, in the class -/
def Tk (b : Nat → Nat) (L s : Nat) (T : Bun) : Prop := TX b L T ∧ s ≤ L ∧ T 0 3 = nI s ∧ T 0 4 = nI (tE b L s) ∧ T 0 2 = nI (kdN b L s) ∧ (kdN b L s = 2 → T 0 5 = nI (vcN b s (tE b L s - s)))
theorem up_up {S : Bun} {k i : Nat} {x y : Int32} : up (up S k i x) k i y = up S k i y := by
  funext a c
  rw [up_eq, up_eq, up_eq]
  by_cases h : a = k ∧ c = i
  · rw [if_pos h, if_pos h]
  · rw [if_neg h, if_neg h, if_neg h]
theorem letter5 {x : Nat} (hx : x ≤ 255) {post : Int32 → Prop} (h : post (bI (decide (97 ≤ x ∧ x ≤ 122)))) : wX4_isLetter (nI x) post := by
  unfold wX4_isLetter
  rw [show nI x < (97 : Int32) ↔ x < 97 from nI_ltI (b := 97) (by omega) (by decide), show (122 : Int32) < nI x ↔ 122 < x from nI_ltI (a := 122) (by decide) (by omega)]
  refine ⟨fun z => ?_, fun z => ⟨fun z2 => ?_, fun z2 => ?_⟩⟩
  · rw [decide_eq_false (by omega)] at h; exact h
  · rw [decide_eq_false (by omega)] at h; exact h
  · rw [decide_eq_true (by omega)] at h; exact h
theorem digit5 {x : Nat} (hx : x ≤ 255) {post : Int32 → Prop} (h : post (bI (decide (48 ≤ x ∧ x ≤ 57)))) : wX4_isDigit (nI x) post := by
  unfold wX4_isDigit
  rw [show nI x < (48 : Int32) ↔ x < 48 from nI_ltI (b := 48) (by omega) (by decide), show (57 : Int32) < nI x ↔ 57 < x from nI_ltI (a := 57) (by decide) (by omega)]
  refine ⟨fun z => ?_, fun z => ⟨fun z2 => ?_, fun z2 => ?_⟩⟩
  · rw [decide_eq_false (by omega)] at h; exact h
  · rw [decide_eq_false (by omega)] at h; exact h
  · rw [decide_eq_true (by omega)] at h; exact h
theorem vc_le (b : Nat → Nat) (s : Nat) : ∀ j, vcN b s j ≤ 1000
  | 0 => Nat.zero_le _
  | j + 1 => Nat.min_le_left _ _
section
variable {b : Nat → Nat} {L : Nat}
theorem TX.same {T T' : Bun} (h : TX b L T) (h0 : T' 0 1 = T 0 1) (h1 : T' 1 = T 1) : TX b L T' := by
  unfold TX; rw [h0, h1]; exact h
theorem takeDigits5 {T : Bun} {s : Nat} (hT : TX b L T) (hs : s < L) (e4 : T 0 4 = nI s) {post : Bun → Prop} (h : ∀ T' : Bun, (∀ r, r ≠ 0 → T' r = T r) → (∀ k, k ≠ 4 → k ≠ 5 → T' 0 k = T 0 k) → T' 0 4 = nI (rn (isDg b) L s) → T' 0 5 = nI (vcN b s (rn (isDg b) L s - s)) → post T') : wX4_takeDigits T post := by
  obtain ⟨t1, t2, t3, t4⟩ := hT
  unfold wX4_takeDigits
  rintro _ rfl
  refine wl_inv (fun T2 => ∃ q, s ≤ q ∧ q ≤ L ∧ rn (isDg b) L q = rn (isDg b) L s ∧ (∀ r, r ≠ 0 → T2 r = T r) ∧ (∀ k, k ≠ 4 → k ≠ 5 → T2 0 k = T 0 k) ∧ T2 0 4 = nI q ∧ T2 0 5 = nI (vcN b s (q - s))) (fun T2 => L - (T2 0 4).toNatClampNeg) ?_ ⟨s, Nat.le_refl s, by omega, rfl, fun r hr => up_k hr, fun k a c => up_ki c, by rw [up_ki (by decide)]; exact e4, by rw [up_ss, Nat.sub_self]; rfl⟩
  rintro T2 KK ⟨q, q1, q2, q3, k1, k2, k3, k4⟩ hKK
  have tl : T2 0 1 = nI L := by rw [k2 1 (by decide) (by decide)]; exact t1
  rw [tl, k3, tn_nI (n := q) (by omega), k1 1 (by decide)]
  refine ⟨fun z => ?_, fun z => ?_⟩
  · have := (nI_leI (by omega) (by omega)).mp z
    have e : rn (isDg b) L q = q := rn_stop (Or.inl this)
    refine h T2 k1 k2 (by rw [← q3, e]; exact k3) (by rw [← q3, e]; exact k4)
  · have hq : q < L := by
      rcases Nat.lt_or_ge q L with h' | h'
      · exact h'
      · exact absurd (nI_le h' (by omega)) z
    rw [t2 q (by omega)]
    have hb := t4 q (by omega)
    refine ⟨vp_in_nI (by omega) (by decide), digit5 hb (br_b (fun y => ?_) (fun y => ⟨vp_in_nI (by omega) (by decide), ?_⟩))⟩
    · have e : rn (isDg b) L q = q := rn_stop (Or.inr y)
      exact h T2 k1 k2 (by rw [← q3, e]; exact k3) (by rw [← q3, e]; exact k4)
    · have dg : 48 ≤ b q ∧ b q ≤ 57 := of_decide_eq_true y
      have vl := vc_le b s (q - s)
      rw [k4]
      have ev : (if (((10 : Int32) * nI (vcN b s (q - s))) + nI (b q)) - (48 : Int32) < (1000 : Int32) then (((10 : Int32) * nI (vcN b s (q - s))) + nI (b q)) - (48 : Int32) else (1000 : Int32)) = nI (vcN b s (q + 1 - s)) := by
        have e1 : (((10 : Int32) * nI (vcN b s (q - s))) + nI (b q)) - (48 : Int32) = nI (10 * vcN b s (q - s) + b q - 48) := by
          rw [fa_lit 10, pk_mul, nI_add, fa_lit 48, n_sub (by omega) (by omega)]
        rw [e1, show q + 1 - s = (q - s) + 1 by omega]
        show _ = nI (min 1000 (10 * vcN b s (q - s) + b (s + (q - s)) - 48))
        rw [show s + (q - s) = q by omega, fa_lit 1000]
        by_cases c : 10 * vcN b s (q - s) + b q - 48 < 1000
        · rw [if_pos (nI_lt (b := 1000) c (by decide)), Nat.min_eq_right (by omega)]
        · rw [if_neg (nI_nlt (b := 1000) (show 1000 ≤ 10 * vcN b s (q - s) + b q - 48 by omega) (by omega)), Nat.min_eq_left (by omega)]
      rw [ev]
      rintro _ rfl _ rfl
      rw [up_ki (by decide), k3, show nI q + (1 : Int32) = nI (q + 1) from nI_1 q]
      refine hKK _ ⟨q + 1, by omega, by omega, by rw [← q3]; exact (rn_step hq y).symm, fun r hr => by rw [up_k hr, up_k hr]; exact k1 r hr, fun k a c => by rw [up_ki a, up_ki c]; exact k2 k a c, up_ss, by rw [up_ki (by decide), up_ss]⟩ ?_
      show L - (up (up T2 0 5 (nI (vcN b s (q + 1 - s)))) 0 4 (nI (q + 1)) 0 4).toNatClampNeg < L - (T2 0 4).toNatClampNeg
      rw [up_ss, k3, tn_nI (by omega), tn_nI (by omega)]
      omega
theorem takeToken5 {T : Bun} {p : Nat} (hT : TX b L T) (hp : p ≤ L) (e4 : T 0 4 = nI p) {post : Bun → Prop} (h : ∀ T' : Bun, Tk b L (tS b L p) T' → post T') : wX4_takeToken T post := by
  obtain ⟨t1, t2, t3, t4⟩ := id hT
  unfold wX4_takeToken
  rintro _ rfl
  refine wl_inv (fun T2 => ∃ q, p ≤ q ∧ q ≤ L ∧ rn (isSp b) L q = rn (isSp b) L p ∧ T2 = up T 0 3 (nI q)) (fun T2 => L - (T2 0 3).toNatClampNeg) ?_ ⟨p, Nat.le_refl p, hp, rfl, by rw [e4]⟩
  rintro T2 KK ⟨q, q1, q2, q3, rfl⟩ hKK
  have u3 : up T 0 3 (nI q) 0 3 = nI q := up_ss
  have u1 : up T 0 3 (nI q) 0 1 = nI L := by rw [up_ki (by decide)]; exact t1
  have ur : up T 0 3 (nI q) 1 = T 1 := up_k (by decide)
  rw [u3, u1, ur, tn_nI (n := q) (by omega)]
  have REST : tS b L p = q → ∀ T12 : Bun, T12 = up (up T 0 3 (nI q)) 0 4 (nI q) → (((T12 0 3) < (T12 0 1) → vp_in (T12 0 3) 120 ∧ wX4_isLetter (T12 1 (T12 0 3).toNatClampNeg) (fun r13 => ((r13 = 0 → vp_in (T12 0 3) 120 ∧ wX4_isDigit (T12 1 (T12 0 3).toNatClampNeg) (fun r15 => ((r15 = 0 → vp_in (T12 0 3) 120 ∧ wjoin (σ := Int32) (fun y17 => ∀ T21 : Bun, T21 = up T12 0 2 y17 → ∀ T22 : Bun, T22 = up T21 0 4 ((T21 0 4) + (1 : Int32)) → post T22) (fun J18 => (((T12 1 (T12 0 3).toNatClampNeg) = (59 : Int32) → J18 (3 : Int32)) ∧ (¬ ((T12 1 (T12 0 3).toNatClampNeg) = (59 : Int32)) → J18 (4 : Int32))))) ∧ (¬ (r15 = 0) → ∀ T24 : Bun, T24 = up T12 0 2 (2 : Int32) → wX4_takeDigits T24 (fun T27 => post T27))))) ∧ (¬ (r13 = 0) → ∀ T29 : Bun, T29 = up T12 0 2 (1 : Int32) → wloop (σ := Bun) (fun K31 T30 => (((T30 0 1) ≤ (T30 0 4) → post T30) ∧ (¬ ((T30 0 1) ≤ (T30 0 4)) → vp_in (T30 0 4) 120 ∧ wX4_isLetter (T30 1 (T30 0 4).toNatClampNeg) (fun r37 => ((r37 = 0 → post T30) ∧ (¬ (r37 = 0) → ∀ T39 : Bun, T39 = up T30 0 4 ((T30 0 4) + (1 : Int32)) → K31 T39)))))) T29)))) ∧ (¬ ((T12 0 3) < (T12 0 1)) → ∀ T44 : Bun, T44 = up T12 0 2 (0 : Int32) → post T44)) := by
    rintro hq T12 rfl
    have a3 : up (up T 0 3 (nI q)) 0 4 (nI q) 0 3 = nI q := by rw [up_ki (by decide), up_ss]
    have a4 : up (up T 0 3 (nI q)) 0 4 (nI q) 0 4 = nI q := up_ss
    have a1 : up (up T 0 3 (nI q)) 0 4 (nI q) 0 1 = nI L := by rw [up_ki (by decide), up_ki (by decide)]; exact t1
    have ar : up (up T 0 3 (nI q)) 0 4 (nI q) 1 = T 1 := by rw [up_k (by decide), up_k (by decide)]
    generalize up (up T 0 3 (nI q)) 0 4 (nI q) = T12 at a3 a4 a1 ar
    have tx : TX b L T12 := hT.same (by rw [a1, t1]) ar
    rw [hq] at h
    rw [a3, a1, ar, tn_nI (n := q) (by omega)]
    refine ⟨fun z => ?_, fun z => ?_⟩
    · have hqL : q < L := (nI_ltI (by omega) (by omega)).mp z
      have nL : ¬ L ≤ q := by omega
      have hb := t4 q (by omega)
      have vq : vp_in (nI q) 120 := vp_in_nI (by omega) (by decide)
      rw [t2 q (by omega)]
      refine ⟨vq, letter5 hb (br_b (fun nl => ⟨vq, digit5 hb (br_b (fun nd => ⟨vq, ?_⟩) (fun yd => ?_))⟩) (fun yl => ?_))⟩
      · have kd : kdN b L q = if b q = 59 then 3 else 4 := by
          unfold kdN
          rw [if_neg nL, if_neg (by rw [show isLe b q = false from nl]; decide), if_neg (by rw [show isDg b q = false from nd]; decide)]
        have te : tE b L q = q + 1 := by
          unfold tE
          rw [if_neg nL, if_neg (by rw [show isLe b q = false from nl]; decide), if_neg (by rw [show isDg b q = false from nd]; decide)]
        have fin : ∀ y : Int32, y = nI (kdN b L q) → ∀ T21 : Bun, T21 = up T12 0 2 y → ∀ T22 : Bun, T22 = up T21 0 4 ((T21 0 4) + (1 : Int32)) → post T22 := by
          rintro _ rfl _ rfl _ rfl
          refine h _ ⟨tx.same (by rw [up_ki (by decide), up_ki (by decide)]) (by rw [up_k (by decide), up_k (by decide)]), q2, ?_, ?_, ?_, fun z2 => ?_⟩
          · rw [up_ki (by decide), up_ki (by decide)]; exact a3
          · rw [up_ss, up_ki (by decide), a4, te]; exact nI_1 q
          · rw [up_ki (by decide), up_ss]
          · rw [kd] at z2
            split at z2 <;> exact absurd z2 (by decide)
        rw [show nI (b q) = (59 : Int32) ↔ b q = 59 from nI_eq (b := 59) (by omega) (by decide)]
        refine wj ⟨fun z2 => fin _ (by rw [kd, if_pos z2]; rfl), fun z2 => fin _ (by rw [kd, if_neg z2]; rfl)⟩
      · rintro _ rfl
        have kd : kdN b L q = 2 := by
          unfold kdN
          rw [if_neg nL, if_neg (by rw [show isLe b q = false from nl]; decide), if_pos (show isDg b q = true from yd)]
        have te : tE b L q = rn (isDg b) L q := by
          unfold tE
          rw [if_neg nL, if_neg (by rw [show isLe b q = false from nl]; decide), if_pos (show isDg b q = true from yd)]
        refine takeDigits5 (tx.same (by rw [up_ki (by decide)]) (by rw [up_k (by decide)])) hqL (by rw [up_ki (by decide)]; exact a4) (fun T' v1 v2 v3 v4 => h T' ⟨?_, q2, ?_, ?_, ?_, fun _ => ?_⟩)
        · exact tx.same (by rw [v2 1 (by decide) (by decide), up_ki (by decide)]) (by rw [v1 1 (by decide), up_k (by decide)])
        · rw [v2 3 (by decide) (by decide), up_ki (by decide)]; exact a3
        · rw [te]; exact v3
        · rw [v2 2 (by decide) (by decide), up_ss, kd]; rfl
        · rw [te]; exact v4
      · rintro _ rfl
        have kd : kdN b L q = 1 := by
          unfold kdN
          rw [if_neg nL, if_pos (show isLe b q = true from yl)]
        have te : tE b L q = rn (isLe b) L q := by
          unfold tE
          rw [if_neg nL, if_pos (show isLe b q = true from yl)]
        refine wl_inv (fun T2 => ∃ x, q ≤ x ∧ x ≤ L ∧ rn (isLe b) L x = rn (isLe b) L q ∧ (∀ r, r ≠ 0 → T2 r = T12 r) ∧ (∀ k, k ≠ 4 → k ≠ 2 → T2 0 k = T12 0 k) ∧ T2 0 2 = 1 ∧ T2 0 4 = nI x) (fun T2 => L - (T2 0 4).toNatClampNeg) ?_ ⟨q, Nat.le_refl q, q2, rfl, fun r hr => up_k hr, fun k a c => up_ki c, up_ss, by rw [up_ki (by decide)]; exact a4⟩
        rintro T2 KK2 ⟨x, x1, x2, x3, l1, l2, l3, l4⟩ hKK2
        have fin : rn (isLe b) L x = x → post T2 := by
          intro ex
          refine h T2 ⟨tx.same (l2 1 (by decide) (by decide)) (l1 1 (by decide)), q2, ?_, ?_, ?_, fun z2 => ?_⟩
          · rw [l2 3 (by decide) (by decide)]; exact a3
          · rw [te, ← x3, ex]; exact l4
          · rw [kd]; exact l3
          · rw [kd] at z2; exact absurd z2 (by decide)
        rw [l2 1 (by decide) (by decide), a1, l4, tn_nI (n := x) (by omega), l1 1 (by decide), ar]
        refine ⟨fun z2 => fin (rn_stop (Or.inl ((nI_leI (by omega) (by omega)).mp z2))), fun z2 => ?_⟩
        have hx : x < L := by
          rcases Nat.lt_or_ge x L with h' | h'
          · exact h'
          · exact absurd (nI_le h' (by omega)) z2
        rw [t2 x (by omega)]
        refine ⟨vp_in_nI (by omega) (by decide), letter5 (t4 x (by omega)) (br_b (fun y => fin (rn_stop (Or.inr y))) (fun y => ?_))⟩
        rintro _ rfl
        rw [show nI x + (1 : Int32) = nI (x + 1) from nI_1 x]
        refine hKK2 _ ⟨x + 1, by omega, by omega, by rw [← x3]; exact (rn_step hx y).symm, fun r hr => by rw [up_k hr]; exact l1 r hr, fun k a c => by rw [up_ki a]; exact l2 k a c, by rw [up_ki (by decide)]; exact l3, up_ss⟩ ?_
        show L - (up T2 0 4 (nI (x + 1)) 0 4).toNatClampNeg < L - (T2 0 4).toNatClampNeg
        rw [up_ss, l4, tn_nI (by omega), tn_nI (by omega)]
        omega
    · have hqL : L ≤ q := by
        rcases Nat.lt_or_ge q L with h' | h'
        · exact absurd (nI_lt h' (by omega)) z
        · exact h'
      rintro _ rfl
      have kd : kdN b L q = 0 := if_pos hqL
      have te : tE b L q = q := if_pos hqL
      refine h _ ⟨tx.same (by rw [up_ki (by decide)]) (by rw [up_k (by decide)]), q2, ?_, ?_, ?_, fun z2 => ?_⟩
      · rw [up_ki (by decide)]; exact a3
      · rw [up_ki (by decide), te]; exact a4
      · rw [up_ss, kd]; rfl
      · rw [kd] at z2; exact absurd z2 (by decide)
  refine wj ⟨fun z => ?_, fun z => ?_⟩
  · exact REST (by unfold tS; rw [← q3]; exact rn_stop (Or.inl ((nI_leI (by omega) (by omega)).mp z)))
  · have hqL : q < L := by
      rcases Nat.lt_or_ge q L with h' | h'
      · exact h'
      · exact absurd (nI_le h' (by omega)) z
    have hb := t4 q (by omega)
    rw [t2 q (by omega), show nI (b q) = (32 : Int32) ↔ b q = 32 from nI_eq (b := 32) (by omega) (by decide)]
    refine ⟨vp_in_nI (by omega) (by decide), fun z2 => ?_, fun z2 => REST (by unfold tS; rw [← q3]; exact rn_stop (Or.inr (beq_eq_false_iff_ne.mpr z2)))⟩
    rintro _ rfl
    rw [up_up, show nI q + (1 : Int32) = nI (q + 1) from nI_1 q]
    refine hKK _ ⟨q + 1, by omega, by omega, by rw [← q3]; exact (rn_step hqL (show isSp b q = true from beq_iff_eq.mpr z2)).symm, rfl⟩ ?_
    show L - (up T 0 3 (nI (q + 1)) 0 3).toNatClampNeg < L - (up T 0 3 (nI q) 0 3).toNatClampNeg
    rw [up_ss, up_ss, tn_nI (by omega), tn_nI (by omega)]
    omega
end
end
