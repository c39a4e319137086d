/-! the first of the cheapest: whose, stone -/
section
def pkN (g : Nat → Option Nat) : Nat → Option (Nat × Nat)
  | 0 => none
  | i + 1 => match g i with
    | none => pkN g i
    | some v => match pkN g i with
      | none => some (i, v)
      | some x => if v < x.2 then some (i, v) else some x
def pkF (x : Option (Nat × Nat)) : Int32 := match x with
  | none => -1
  | some y => nI y.1
def pkA (x : Option (Nat × Nat)) : Int32 := match x with
  | none => 1000000
  | some y => nI y.2
def pkB (x : Option (Nat × Nat)) : Int32 := match x with
  | none => 0
  | some y => nI y.2
theorem pk_no {g : Nat → Option Nat} {i : Nat} (h : g i = none) : pkN g (i + 1) = pkN g i := by
  show (match g i with | none => pkN g i | some v => _) = _
  rw [h]
theorem pk_new {g : Nat → Option Nat} {i v : Nat} (h : g i = some v) (h2 : pkN g i = none) : pkN g (i + 1) = some (i, v) := by
  show (match g i with | none => pkN g i | some v => match pkN g i with | none => some (i, v) | some x => if v < x.2 then some (i, v) else some x) = _
  rw [h, h2]
theorem pk_old {g : Nat → Option Nat} {i v : Nat} {x : Nat × Nat} (h : g i = some v) (h2 : pkN g i = some x) : pkN g (i + 1) = if v < x.2 then some (i, v) else some x := by
  show (match g i with | none => pkN g i | some v => match pkN g i with | none => some (i, v) | some x => if v < x.2 then some (i, v) else some x) = _
  rw [h, h2]
theorem pkn_in {g : Nat → Option Nat} : ∀ {n : Nat} {x : Nat × Nat}, pkN g n = some x → x.1 < n ∧ g x.1 = some x.2
  | 0, x, h => by cases h
  | n + 1, x, h => by
    cases hg : g n with
    | none =>
      rw [pk_no hg] at h
      have := pkn_in h
      exact ⟨by omega, this.2⟩
    | some v =>
      cases hp : pkN g n with
      | none =>
        rw [pk_new hg hp] at h
        obtain rfl := Option.some.inj h
        exact ⟨Nat.lt_succ_self n, hg⟩
      | some y =>
        rw [pk_old hg hp] at h
        by_cases q : v < y.2
        · rw [if_pos q] at h
          obtain rfl := Option.some.inj h
          exact ⟨Nat.lt_succ_self n, hg⟩
        · rw [if_neg q] at h
          obtain rfl := Option.some.inj h
          have := pkn_in hp
          exact ⟨by omega, this.2⟩
theorem pkF_no {x : Option (Nat × Nat)} (h : x = none) : ¬ 0 ≤ pkF x := by rw [h]; decide
theorem pkF_yes {g : Nat → Option Nat} {n : Nat} (hn : n ≤ 100) {x : Nat × Nat} (h : pkN g n = some x) : 0 ≤ pkF (pkN g n) ∧ ¬ pkF (pkN g n) < 0 := by
  have := (pkn_in h).1
  rw [h]
  exact ⟨nI_pos' (by omega), nI_pos (by omega)⟩
theorem pk5 {g : Nat → Option Nat} {j : Nat} (hb : ∀ i v, g i = some v → v < 1000000) {Q : Int32 → Int32 → Prop} (h : Q (pkA (pkN g (j + 1))) (pkF (pkN g (j + 1)))) : ((pkA (pkN g j) ≤ cI (g j) → Q (pkA (pkN g j)) (pkF (pkN g j))) ∧ (¬ (pkA (pkN g j) ≤ cI (g j)) → Q (cI (g j)) (nI j))) := by
  have e6 : (1000000 : Int32) = nI 1000000 := rfl
  cases hg : g j with
  | none =>
    rw [pk_no hg] at h
    refine br_t ?_ h
    cases hp : pkN g j with
    | none => exact (by decide : (1000000 : Int32) ≤ 1000000)
    | some y => exact nI_le (b := 1000000) (Nat.le_of_lt (hb _ _ (pkn_in hp).2)) (by decide)
  | some v =>
    have hv := hb j v hg
    cases hp : pkN g j with
    | none =>
      rw [pk_new hg hp] at h
      exact br_f (nI_ge (b := 1000000) hv (by decide)) h
    | some y =>
      have hy := hb _ _ (pkn_in hp).2
      rw [pk_old hg hp] at h
      rw [show pkA (some y) ≤ cI (some v) ↔ y.2 ≤ v from nI_leI (by omega) (by omega)]
      refine ⟨fun z => ?_, fun z => ?_⟩
      · rw [if_neg (by omega)] at h; exact h
      · rw [if_pos (by omega)] at h; exact h
theorem pk6 {g : Nat → Option Nat} {j : Nat} (hj : j < 100) (hb : ∀ i v, g i = some v → v < 1000000) {Q : Int32 → Int32 → Prop} (h : Q (pkF (pkN g (j + 1))) (pkB (pkN g (j + 1)))) : ((gI (g j) < 0 → Q (pkF (pkN g j)) (pkB (pkN g j))) ∧ (¬ (gI (g j) < 0) → ((pkF (pkN g j) < 0 → Q (nI j) (gI (g j))) ∧ (¬ (pkF (pkN g j) < 0) → ((pkB (pkN g j) ≤ gI (g j) → Q (pkF (pkN g j)) (pkB (pkN g j))) ∧ (¬ (pkB (pkN g j) ≤ gI (g j)) → Q (nI j) (gI (g j)))))))) := by
  cases hg : g j with
  | none =>
    rw [pk_no hg] at h
    exact br_t (by decide) h
  | some v =>
    have hv := hb j v hg
    refine br_f (nI_pos (by omega)) ?_
    cases hp : pkN g j with
    | none =>
      rw [pk_new hg hp] at h
      exact br_t (by decide) h
    | some y =>
      have hy := hb _ _ (pkn_in hp).2
      have hy1 := (pkn_in hp).1
      rw [pk_old hg hp] at h
      refine br_f (nI_pos (by omega)) ?_
      rw [show pkB (some y) ≤ gI (some v) ↔ y.2 ≤ v from nI_leI (by omega) (by omega)]
      refine ⟨fun z => ?_, fun z => ?_⟩
      · rw [if_neg (by omega)] at h; exact h
      · rw [if_pos (by omega)] at h; exact h
variable {C : Nat → Bun} {N : Nat → Lon} {S : Bun} {J : Lon}
theorem lo_whose_ok : lo_whose (InvG FIs) := by
  intro C N S J a1 hI
  obtain ⟨n, hn, en⟩ := hI.1.1.1
  have es : S 1 0 = nI n := hI.1.2.1.trans en
  obtain ⟨m, hm, em⟩ := hI.1.1.2.1
  have ms : S 1 1 = nI m := hI.1.2.2.1.trans em
  unfold wX5_whose
  refine hasF5 hn en (fun f hf ef => br_f (by decide) ?_) (fun h1 => br_t rfl (find5 (k := 0) (by decide) ?_))
  · subst ef
    have ex : ∀ t : Nat, ∃ v : Option Nat, t < m → ∃ K p T E i o, QD C t f K p T E i o ∧ Q6 S t f K T E i o ∧ S 1 (45 + 2 * t) = nI p ∧ v = cstN K p (bst (whN K (bsN K T) E i o)) := by
      intro t
      by_cases ht : t < m
      · obtain ⟨K, p, T, E, i, o, q1, q2, q3⟩ := QD_of (f := f) hI hm em ht (by omega)
        exact ⟨_, fun _ => ⟨K, p, T, E, i, o, q1, q2, q3, rfl⟩⟩
      · exact ⟨none, fun z => absurd z ht⟩
    obtain ⟨g0, hg0⟩ := Classical.axiomOfChoice ex
    obtain ⟨g, hg, gno⟩ : ∃ g : Nat → Option Nat, (∀ t, t < m → ∃ K p T E i o, QD C t f K p T E i o ∧ Q6 S t f K T E i o ∧ S 1 (45 + 2 * t) = nI p ∧ g t = cstN K p (bst (whN K (bsN K T) E i o))) ∧ ∀ t, ¬ t < m → g t = none := by
      refine ⟨fun t => if t < m then g0 t else none, fun t ht => ?_, fun t ht => if_neg ht⟩
      obtain ⟨K, p, T, E, i, o, q1, q2, q3, q4⟩ := hg0 t ht
      exact ⟨K, p, T, E, i, o, q1, q2, q3, by show (if t < m then g0 t else none) = _; rw [if_pos ht]; exact q4⟩
    have gb : ∀ i v, g i = some v → v < 1000000 := by
      intro t v hv
      by_cases ht : t < m
      · obtain ⟨K, p, T, E, i, o, q1, q2, q3, q4⟩ := hg t ht
        rw [q4] at hv
        have := cst_bnd q1.2.2.2.2.1 q1.2.1 q1.2.2.1.2 hv
        omega
      · rw [gno t ht] at hv; cases hv
    have m6 : ∀ {post : Int32 → Bun → Prop}, (∀ S' : Bun, Fr S S' → ((0 ≤ pkF (pkN g m) → post (pkF (pkN g m)) S') ∧ (¬ (0 ≤ pkF (pkN g m)) → wX6_finds S' J (-1000000004) (fun r25 S27 => post r25 S27)))) → wX6_whose S J (nI f) post := by
      intro post hp
      unfold wX6_whose
      refine isF6' hn es (fun _ _ _ => br_f (by decide) ?_) (fun h => absurd rfl (h f hf))
      refine wl_up4 (fun j x y z S6 => x = pkF (pkN g j) ∧ y = pkB (pkN g j) ∧ z = nI j ∧ Fr S S6) m ?_ (i := 0) (by omega) ⟨rfl, rfl, rfl, Fr.rfl' S⟩
      rintro j x y z S6 KK hj ⟨rfl, rfl, rfl, k1⟩ hKK
      refine ⟨vin1, fun hc => ?_, fun hc => ?_⟩ <;> rw [c1', k1.one, ms] at hc
      · have := (nI_leI (by omega) (by omega)).mp hc
        obtain rfl : j = m := by omega
        exact hp S6 k1
      · have hlt : j < m := by
          rcases Nat.lt_or_ge j m with h' | h'
          · exact h'
          · exact absurd (nI_le h' (by omega)) hc
        obtain ⟨K, p, T, E, i, o, q1, q2, q3, q4⟩ := hg j hlt
        obtain ⟨_, hK, hpp, hT, hE, gi, go⟩ := q1
        refine costOf6 (by omega) (by omega) hK hT hE gi go (q2.fr k1) (by rw [k1.one]; exact q3) (fun S' u1 u2 => ?_)
        rw [← q4]
        refine pk6 (by omega) gb (Q := fun a b => ∀ x : Int32, x = nI j + (1 : Int32) → KK (a, b, x, S')) ?_
        rintro _ rfl
        exact hKK _ _ _ _ hlt ⟨rfl, rfl, nI_1 j, k1.tr u1⟩
    refine wl_up4 (fun j x y z D => x = pkA (pkN g j) ∧ y = pkF (pkN g j) ∧ z = nI j ∧ InvG FIs D N S J ∧ D 1 = C 1) m ?_ (i := 0) (by omega) ⟨rfl, rfl, rfl, hI, rfl⟩
    rintro j x y z D KK hj ⟨rfl, rfl, rfl, k1, k2⟩ hKK
    refine ⟨fun hc => ?_, fun hc => ?_⟩ <;> rw [k2, em] at hc
    · have := (nI_leI (by omega) (by omega)).mp hc
      obtain rfl : j = m := by omega
      refine ⟨fun q => m6 (fun S' u1 => br_t q ⟨rfl, k1.fr u1⟩), fun q => find5 (k := 3) (by decide) (m6 (fun S' u1 => br_f q (both (k1.fr u1) (by decide) e_n)))⟩
    · have hlt : j < m := by
        rcases Nat.lt_or_ge j m with h' | h'
        · exact h'
        · exact absurd (nI_le h' (by omega)) hc
      obtain ⟨K, p, T, E, i, o, q1, q2, q3, q4⟩ := hg j hlt
      have qD : QD D j f K p T E i o := by unfold QD; rw [k2]; exact q1
      refine furrowsOf5 k1 (by omega) (by omega) qD (fun b F hF h1 h2 => ?_)
      have ne : (1 : Nat) ≠ b := fun z => (isF_ne hF).2.1 z.symm
      refine costOf5 hF (by omega) qD.2.1 qD.2.2.2.2.1 (B := bsN K T) (i := i) (o := o) (p := p) (by rw [up_o ne]; exact qD.1.1) (by rw [up_o ne]; exact qD.1.2.1) (by rw [up_s]; exact h2) ?_
      rw [← q4]
      refine pk5 gb (Q := fun a b' => ∀ x : Int32, x = nI j + (1 : Int32) → KK (a, b', x, va_up D b F)) ?_
      rintro _ rfl
      exact hKK _ _ _ _ hlt ⟨rfl, rfl, nI_1 j, k1.fur hF h1, by rw [up_o ne]; exact k2⟩
  · unfold wX6_whose
    exact isF6' hn es (fun f hf e => absurd e (h1 f hf)) (fun _ => br_t rfl (both hI (by decide) e_b))
end
