/-! row -/
section
variable {C : Nat → Bun} {N : Nat → Lon} {S : Bun} {J : Lon} {FI : Bun → Prop}
theorem InvG.told (h : InvG FI C N S J) (k : Nat) (x : Int32) : InvG FI (va_up C 0 (up (C 0) 11 k x)) N S J := by
  refine h.self (S1 := S) ?_ (fun j hj => ?_) (fun _ _ _ => rfl) rfl
  · rw [up_k (by decide)]; exact h.2.2.1
  · rw [up_k (by decide)]; exact h.2.2.2.1 j hj
/-- the digits of a told row of q fields -/
def dgN (D q j : Nat) : Nat := D / 6 ^ (q - 1 - j) % 6
theorem dg_lt (D q j : Nat) : dgN D q j < 6 := Nat.mod_lt _ (by decide)
theorem ix_q {q i : Nat} (hi : i < q) (hq : q ≤ 6) : nI (q - i) - (1 : Int32) = nI (q - 1 - i) := by
  rw [n_pred (by omega), show q - i - 1 = q - 1 - i by omega]
theorem dec_q {q i : Nat} (hi : i < q) : nI (q - 1 - i) + (-1 : Int32) = nI (q - (i + 1)) - (1 : Int32) := by
  rw [show q - (i + 1) = q - 1 - i by omega]
  exact (Int32.sub_eq_add_neg (nI (q - 1 - i)) 1).symm
theorem takeRow5 {n q : Nat} {a2 : Int32} (hI : InvG FI C N S J) (hn : n ≤ 6) (en : C 1 0 0 = nI n) (hq : q ≤ 6) {post : Int32 → (Nat → Bun) → Prop}
    (h1 : ∀ D : Nat, D < 2 ^ 31 → a2 = nI D → (∀ j, j < q → dgN D q j < n) → D / 6 ^ q = 0 → ∀ C' : Nat → Bun, InvG FI C' N S J → C' 1 = C 1 → (∀ j, j < q → C' 0 11 j = nI (dgN D q j)) → post 1 C')
    (h0 : (a2.toInt < 0 ∨ ∃ D : Nat, D < 2 ^ 31 ∧ a2 = nI D ∧ ¬ ((∀ j, j < q → dgN D q j < n) ∧ D / 6 ^ q = 0)) → ∀ C' : Nat → Bun, InvG FI C' N S J → post 0 C') : wX5_takeRow C N a2 (nI q) post := by
  have e0 : (0 : Int32).toInt = 0 := rfl
  unfold wX5_takeRow
  rintro _ rfl
  by_cases neg : a2.toInt < 0
  · have P0 := h0 (Or.inl neg)
    refine wl_up3 (fun i x y D => y = nI (q - i) - (1 : Int32) ∧ InvG FI D N S J ∧ D 1 = C 1) q ?_ (i := 0) (by omega) ⟨rfl, hI, rfl⟩
    rintro i x y D KK hi ⟨rfl, k1, k2⟩ hKK
    refine ⟨fun z => br_t (by rw [fa_lt, e0]; exact neg) (P0 D k1), fun z => ?_⟩
    have hlt : i < q := by
      rcases Nat.lt_or_ge i q with h' | h'
      · exact h'
      · exact absurd (by rw [show q - i = 0 by omega]; decide) z
    rw [ix_q hlt hq, tn_nI (n := q - 1 - i) (by omega)]
    refine ⟨vp_in_nI (by omega) (by decide), ?_⟩
    rintro _ rfl _ rfl
    have k3 := k1.told (q - 1 - i) (x - x / 6 * 6)
    have k4 : va_up D 0 (up (D 0) 11 (q - 1 - i) (x - x / 6 * 6)) 1 = C 1 := by rw [up_o (by decide)]; exact k2
    refine ⟨vp_in_nI (by omega) (by decide), ?_⟩
    rw [k4]
    refine hasF5 hn en (fun _ _ _ => br_f (by decide) ?_) (fun _ => br_t rfl (P0 _ k3))
    rintro _ rfl
    exact hKK _ _ _ hlt ⟨dec_q hlt, k3, k4⟩
  · obtain ⟨D, hD, eD⟩ := of_toInt (x := a2) (n := 2 ^ 31) (by omega) (by have := fb_rng a2; omega) (by decide)
    subst eD
    have P0 : ¬ ((∀ j, j < q → dgN D q j < n) ∧ D / 6 ^ q = 0) → ∀ C' : Nat → Bun, InvG FI C' N S J → post 0 C' := fun z => h0 (Or.inr ⟨D, hD, rfl, z⟩)
    have dv : ∀ i, D / 6 ^ i < 2 ^ 31 := fun i => Nat.lt_of_le_of_lt (Nat.div_le_self _ _) hD
    refine wl_up3 (fun i x y D2 => x = nI (D / 6 ^ i) ∧ y = nI (q - i) - (1 : Int32) ∧ InvG FI D2 N S J ∧ D2 1 = C 1 ∧ (∀ j, q - i ≤ j → j < q → D2 0 11 j = nI (dgN D q j) ∧ dgN D q j < n)) q ?_ (i := 0) (by omega) ⟨by rw [Nat.pow_zero, Nat.div_one], rfl, hI, rfl, fun j a b => absurd b (by omega)⟩
    rintro i x y D2 KK hi ⟨rfl, rfl, k1, k2, k3⟩ hKK
    refine ⟨fun z => ?_, fun z => ?_⟩
    · have : i = q := by
        rcases Nat.lt_or_ge i q with h' | h'
        · rw [ix_q h' hq] at z
          exact absurd z (nI_pos (by omega))
        · omega
      subst this
      refine br_f (nI_pos hD) ?_
      rw [show nI (D / 6 ^ i) = 0 ↔ D / 6 ^ i = 0 from nI_eq (b := 0) (dv i) (by decide)]
      refine ⟨fun z2 => h1 D hD rfl (fun j hj => (k3 j (by omega) hj).2) z2 D2 k1 k2 (fun j hj => (k3 j (by omega) hj).1), fun z2 => P0 (fun y => z2 y.2) D2 k1⟩
    · have hlt : i < q := by
        rcases Nat.lt_or_ge i q with h' | h'
        · exact h'
        · exact absurd (by rw [show q - i = 0 by omega]; decide) z
      have edg : D / 6 ^ i % 6 = dgN D q (q - 1 - i) := by
        unfold dgN
        rw [show q - 1 - (q - 1 - i) = i by omega]
      have dl := dg_lt D q (q - 1 - i)
      have e6 : nI (D / 6 ^ i) - nI (D / 6 ^ i) / 6 * 6 = nI (dgN D q (q - 1 - i)) := by
        rw [← edg]; exact pk_rem (d := 6) (dv i) (by decide) (by decide)
      have e7 : nI (D / 6 ^ i) / 6 = nI (D / 6 ^ (i + 1)) := by
        have : nI (D / 6 ^ i) / nI 6 = nI (D / 6 ^ i / 6) := pk_div (dv i) (by decide) (by decide)
        rw [Nat.pow_succ, ← Nat.div_div_eq_div_mul]; exact this
      rw [ix_q hlt hq, tn_nI (n := q - 1 - i) (by omega), e6, e7]
      refine ⟨vp_in_nI (by omega) (by decide), ?_⟩
      rintro _ rfl _ rfl
      have k4 := k1.told (q - 1 - i) (nI (dgN D q (q - 1 - i)))
      have k5 : va_up D2 0 (up (D2 0) 11 (q - 1 - i) (nI (dgN D q (q - 1 - i)))) 1 = C 1 := by rw [up_o (by decide)]; exact k2
      refine ⟨vp_in_nI (by omega) (by decide), ?_⟩
      rw [k5, up_s, up_ss]
      refine hasF5 hn en (fun f hf ef => br_f (by decide) ?_) (fun hno => br_t rfl (P0 (fun y => hno _ (y.1 (q - 1 - i) (by omega)) rfl) _ k4))
      have : dgN D q (q - 1 - i) = f := (nI_eq (by omega) (by omega)).mp ef
      rintro _ rfl
      refine hKK _ _ _ hlt ⟨rfl, dec_q hlt, k4, k5, fun j j1 j2 => ?_⟩
      rw [up_s, up_eq]
      by_cases e : j = q - 1 - i
      · rw [if_pos ⟨rfl, e⟩, e]; exact ⟨rfl, by omega⟩
      · rw [if_neg (fun z => e z.2)]; exact k3 j (by omega) j2
/-- where a told row breaks -/
def okW (g : Nat → Option Nat) (jm r : Nat → Nat) (k : Nat) : Bool := (g (r k)).isSome && stB jm r k
theorem row6 {n m t q R : Nat} {a2 : Int32} {w v jm : Nat → Nat} {g : Nat → Option Nat} (hI : InvG FI C N S J) (hn : n ≤ 6) (es : S 1 0 = nI n) (hm : m ≤ 6) (ms : S 1 1 = nI m) (ht : t < m) (hq : q ≤ 6) (hP : PgOk n g w v jm) (hG : Gd C S n t g w v jm) {post : Int32 → Bun → Prop}
    (h0 : (a2.toInt < 0 ∨ ∃ D : Nat, D < 2 ^ 31 ∧ a2 = nI D ∧ ¬ ((∀ j, j < q → dgN D q j < n) ∧ D / 6 ^ q = 0)) → ∀ S' : Bun, FrL S S' → wX6_finds S' J (-1000000001) (fun r x => post r x))
    (h1 : ∀ D : Nat, D < 2 ^ 31 → a2 = nI D → (∀ j, j < q → dgN D q j < n) → D / 6 ^ q = 0 → R ≤ q ∧ (∀ j, j < R → okW g jm (dgN D q) j = true) ∧ (R < q → okW g jm (dgN D q) R = false) ∧ ∀ S' S'' : Bun, FrL S S' → FrC S' S'' → post (nI R) S'') : wX6_row S J (nI t) a2 (nI q) post := by
  have e0 : (0 : Int32).toInt = 0 := rfl
  unfold wX6_row
  refine isT6 hm ms (fun _ _ _ => wj (br_f (by decide) ?_)) (fun h => absurd rfl (h t ht))
  refine in_r (lo := 0) (hi := 6) (by decide) (by decide) (by decide) (fun _ _ _ _ => br_f (by decide) ?_) (fun hb => absurd rfl (hb q (by omega) hq))
  by_cases neg : a2.toInt < 0
  · have P0 := h0 (Or.inl neg)
    refine wj (br_t (by rw [fa_lt, e0]; exact neg) ?_)
    rintro _ rfl
    refine wl_up4 (fun i x y z S2 => y = 0 ∧ z = nI (q - i) - (1 : Int32) ∧ FrL S S2) q ?_ (i := 0) (by omega) ⟨rfl, rfl, FrL.rfl' S⟩
    rintro i x y z S2 KK hi ⟨rfl, rfl, k1⟩ hKK
    refine ⟨fun z => wj (br_t rfl (P0 S2 k1)), fun z => ?_⟩
    have hlt : i < q := by
      rcases Nat.lt_or_ge i q with h' | h'
      · exact h'
      · exact absurd (by rw [show q - i = 0 by omega]; decide) z
    rw [ix_q hlt hq, tn_nI (n := q - 1 - i) (by omega)]
    refine ⟨vp_in_nI (by omega) (by decide), ?_⟩
    rintro _ rfl _ rfl
    refine br_t rfl ?_
    rintro _ rfl
    exact hKK _ _ _ _ hlt ⟨rfl, dec_q hlt, frl_16 k1⟩
  · obtain ⟨D, hD, eD⟩ := of_toInt (x := a2) (n := 2 ^ 31) (by omega) (by have := fb_rng a2; omega) (by decide)
    subst eD
    have P0 : ¬ ((∀ j, j < q → dgN D q j < n) ∧ D / 6 ^ q = 0) → ∀ S' : Bun, FrL S S' → wX6_finds S' J (-1000000001) (fun r x => post r x) := fun z => h0 (Or.inr ⟨D, hD, rfl, z⟩)
    have dv : ∀ i, D / 6 ^ i < 2 ^ 31 := fun i => Nat.lt_of_le_of_lt (Nat.div_le_self _ _) hD
    refine wj (br_f (nI_pos hD) ?_)
    rintro _ rfl
    refine wl_up4 (fun i x y z S2 => x = nI (D / 6 ^ i) ∧ (∃ b : Bool, y = bI b ∧ (b = true ↔ ∀ j, q - i ≤ j → j < q → dgN D q j < n)) ∧ z = nI (q - i) - (1 : Int32) ∧ FrL S S2 ∧ ∀ j, q - i ≤ j → j < q → S2 16 j = nI (dgN D q j)) q ?_ (i := 0) (by omega) ⟨by rw [Nat.pow_zero, Nat.div_one], ⟨true, rfl, ⟨fun _ j a b => absurd b (by omega), fun _ => rfl⟩⟩, rfl, FrL.rfl' S, fun j a b => absurd b (by omega)⟩
    rintro i x y z S2 KK hi ⟨rfl, ⟨b, rfl, hb⟩, rfl, k1, k2⟩ hKK
    refine ⟨fun z => ?_, fun z => ?_⟩
    · have : i = q := by
        rcases Nat.lt_or_ge i q with h' | h'
        · rw [ix_q h' hq] at z
          exact absurd z (nI_pos (by omega))
        · omega
      subst this
      refine wj (br_b (fun hf => P0 (fun y => ?_) S2 k1) (fun ht2 => ?_))
      · rw [hb.mpr (fun j _ hj => y.1 j hj)] at hf
        exact absurd hf (by decide)
      · have all := hb.mp ht2
        rw [show nI (D / 6 ^ i) ≤ 0 ↔ D / 6 ^ i ≤ 0 from nI_leI (b := 0) (dv i) (by decide)]
        refine ⟨fun z2 => ?_, fun z2 => P0 (fun y => z2 (Nat.le_of_eq y.2)) S2 k1⟩
        obtain ⟨hR, R1, R2, fin⟩ := h1 D hD rfl (fun j hj => all j (by omega) hj) (Nat.le_zero.mp z2)
        refine findCosts6 hI hn es (by omega) hG k1.one.1 (fun S36 f1 f2 => ?_)
        have r16 : ∀ j, j < i → S36 16 j = nI (dgN D i j) := fun j hj => by
          rw [f1.1 16 (by decide) (by decide) (by decide) (by decide) (by decide) (by decide) (by decide)]; exact k2 j (by omega) hj
        have P := fin S2 S36 k1 f1
        refine wl_up (fun j x => x = nI j) R ?_ (i := 0) (by omega) rfl
        rintro j x KK2 hj rfl hKK2
        refine ⟨fun hc => ?_, fun hc => ?_⟩
        · have := (nI_leI (by omega) (by omega)).mp hc
          obtain rfl : j = R := by omega
          exact P
        · have hlt : j < i := by
            rcases Nat.lt_or_ge j i with h' | h'
            · exact h'
            · exact absurd (nI_le h' (by omega)) hc
          have dl := all j (by omega) hlt
          rw [tn_nI (n := j) (by omega), r16 j hlt, tn_nI (n := dgN D i j) (by omega), (f2.2 _ dl).1]
          refine ⟨vp_in_nI (by omega) (by decide), vp_in_nI (by omega) (by decide), ?_⟩
          have stop : okW g jm (dgN D i) j = false → post (nI j) S36 := by
            intro ok
            have : j = R := by
              rcases Nat.lt_or_ge j R with h' | h'
              · rw [R1 j h'] at ok; exact absurd ok (by decide)
              · omega
            rw [this]; exact P
          cases hg : g (dgN D i j) with
          | none => exact br_t (by decide) (stop (by unfold okW; rw [hg]; rfl))
          | some y =>
            have hy := (hP.2 _ dl).1 y hg
            refine br_f (nI_pos (by omega)) (mayStand6 (jm := jm) (r := dgN D i) (by omega) (fun a ha => dg_lt _ _ _) (fun a ha => r16 a (by omega)) (fun a ha => (f2.2 _ (all a (by omega) (by omega))).2.2.2) ?_)
            refine br_b (fun hf => stop (by unfold okW; rw [hf, Bool.and_false])) (fun ht3 => ?_)
            rintro _ rfl
            have ok : okW g jm (dgN D i) j = true := by unfold okW; rw [hg, ht3]; rfl
            have : j < R := by
              rcases Nat.lt_or_ge j R with h' | h'
              · exact h'
              · have : j = R := by omega
                rw [this] at ok
                rw [R2 (by omega)] at ok
                exact absurd ok (by decide)
            exact hKK2 _ this (nI_1 j)
    · have hlt : i < q := by
        rcases Nat.lt_or_ge i q with h' | h'
        · exact h'
        · exact absurd (by rw [show q - i = 0 by omega]; decide) z
      have edg : D / 6 ^ i % 6 = dgN D q (q - 1 - i) := by
        unfold dgN
        rw [show q - 1 - (q - 1 - i) = i by omega]
      have dl := dg_lt D q (q - 1 - i)
      have e6 : nI (D / 6 ^ i) - nI (D / 6 ^ i) / 6 * 6 = nI (dgN D q (q - 1 - i)) := by
        rw [← edg]; exact pk_rem (d := 6) (dv i) (by decide) (by decide)
      have e7 : nI (D / 6 ^ i) / 6 = nI (D / 6 ^ (i + 1)) := by
        have : nI (D / 6 ^ i) / nI 6 = nI (D / 6 ^ i / 6) := pk_div (dv i) (by decide) (by decide)
        rw [Nat.pow_succ, ← Nat.div_div_eq_div_mul]; exact this
      rw [ix_q hlt hq, tn_nI (n := q - 1 - i) (by omega), e6, e7]
      refine ⟨vp_in_nI (by omega) (by decide), ?_⟩
      rintro _ rfl _ rfl
      have l1 : FrL S (up S2 16 (q - 1 - i) (nI (dgN D q (q - 1 - i)))) := frl_16 k1
      have l2 : ∀ j, q - (i + 1) ≤ j → j < q → up S2 16 (q - 1 - i) (nI (dgN D q (q - 1 - i))) 16 j = nI (dgN D q j) := by
        intro j j1 j2
        rw [up_eq]
        by_cases e : j = q - 1 - i
        · rw [if_pos ⟨rfl, e⟩, e]
        · rw [if_neg (fun z => e z.2)]; exact k2 j (by omega) j2
      have nx : ∀ b' : Bool, (b' = true ↔ (b = true ∧ dgN D q (q - 1 - i) < n)) → ∀ x9 : Int32, x9 = nI (q - 1 - i) + (-1 : Int32) → KK (nI (D / 6 ^ (i + 1)), bI b', x9, up S2 16 (q - 1 - i) (nI (dgN D q (q - 1 - i)))) := by
        rintro b' hb' _ rfl
        refine hKK _ _ _ _ hlt ⟨rfl, ⟨b', rfl, ?_⟩, dec_q hlt, l1, l2⟩
        rw [hb', hb]
        constructor
        · rintro ⟨h1, h2⟩ j j1 j2
          by_cases e : j = q - 1 - i
          · rw [e]; exact h2
          · exact h1 j (by omega) j2
        · intro h1
          exact ⟨fun j j1 j2 => h1 j (by omega) j2, h1 _ (by omega) (by omega)⟩
      refine br_b (fun hf => nx false ?_) (fun ht2 => ⟨vp_in_nI (by omega) (by decide), vin0, ?_⟩)
      · exact ⟨fun y => absurd y (by decide), fun y => by rw [hf] at y; exact absurd y.1 (by decide)⟩
      · rw [c0', l1.one.1, es, up_ss, show nI n ≤ nI (dgN D q (q - 1 - i)) ↔ n ≤ dgN D q (q - 1 - i) from nI_leI (by omega) (by omega)]
        refine ⟨fun y => nx false ⟨fun z => absurd z (by decide), fun z => absurd z.2 (by omega)⟩, fun y => nx true ⟨fun _ => ⟨ht2, by omega⟩, fun _ => rfl⟩⟩
theorem lo_row_ok : lo_row (InvG FIs) := by
  intro C N S J a1 a2 a3 hI
  obtain ⟨n, hn, en⟩ := hI.1.1.1
  have es : S 1 0 = nI n := hI.1.2.1.trans en
  obtain ⟨m, hm, em⟩ := hI.1.1.2.1
  have ms : S 1 1 = nI m := hI.1.2.2.1.trans em
  have hbad : (¬ ∃ t q : Nat, t < m ∧ q ≤ 6 ∧ a1 = nI t ∧ a3 = nI q) → wX5_finding C N 0 (fun r C1 => wX6_row S J a1 a2 a3 (fun r1 S1 => r = r1 ∧ InvG FIs C1 N S1 J)) := by
    intro hb
    refine find5 (k := 0) (by decide) ?_
    unfold wX6_row
    have no := both (N := N) hI (k := 0) (by decide) e_b
    refine isT6 hm ms (fun t ht et => wj (br_f (by decide) ?_)) (fun _ => wj (br_t rfl no))
    exact in_r (lo := 0) (hi := 6) (by decide) (by decide) (by decide) (fun q _ hq eq => absurd ⟨t, q, ht, hq, et, eq⟩ hb) (fun _ => br_t rfl no)
  have e0 : (0 : Int32).toInt = 0 := rfl
  have e6 : (6 : Int32).toInt = 6 := rfl
  unfold wX5_row
  refine hasT5 hm em (fun t ht et => wj (br_f (by decide) ?_)) (fun h1 => wj (br_t rfl (hbad (fun ⟨t, _, ht, _, e, _⟩ => h1 t ht e))))
  rcases rng_or a3 0 6 (by decide) with ⟨q, -, hq, eq⟩ | ⟨hno, hr⟩
  · subst et eq
    refine br_f (nI_pos (by omega)) (br_f (nI_nlt (b := q) (a := 6) hq (by decide)) ?_)
    obtain ⟨g, w, v, jm, hP, hG⟩ := Gd_of (n := n) hI hn hm em ht
    refine takeRow5 hI hn en hq (fun D hD eD all dz C1 i1 i2 i3 => br_f (by decide) ?_) (fun bad C1 i1 => br_t rfl (find5 (k := 0) (by decide) ?_))
    · subst eD
      have fin : ∀ (R : Nat) (C' : Nat → Bun), InvG FIs C' N S J → R ≤ q → (∀ j, j < R → okW g jm (dgN D q) j = true) → (R < q → okW g jm (dgN D q) R = false) → wX6_row S J (nI t) (nI D) (nI q) (fun r1 S1 => nI R = r1 ∧ InvG FIs C' N S1 J) := by
        intro R C' k1 hR R1 R2
        refine row6 (R := R) hI hn es hm ms ht hq hP hG (fun bad => ?_) (fun D2 hD2 e2 _ _ => ?_)
        · exfalso
          rcases bad with z | ⟨D2, hD2, e2, z⟩
          · have := nI_toInt hD; omega
          · obtain rfl : D = D2 := (nI_eq hD hD2).mp e2
            exact z ⟨all, dz⟩
        · obtain rfl : D = D2 := (nI_eq hD hD2).mp e2
          exact ⟨hR, R1, R2, fun S' S'' u1 u2 => ⟨rfl, (k1.frl u1).frc u2⟩⟩
      refine wl_up3 (fun k x y D2 => y = nI k ∧ (∀ f, f < 6 → bt x f = !niB (dgN D q) f k) ∧ InvG FIs D2 N S J ∧ D2 1 = C 1 ∧ (∀ j, j < q → D2 0 11 j = nI (dgN D q j)) ∧ ∀ j, j < k → okW g jm (dgN D q) j = true) q ?_ (i := 0) (by omega) ⟨rfl, fun f hf => b_0 f, i1, i2, i3, fun j hj => absurd hj (by omega)⟩
      rintro k x y D2 KK hk ⟨rfl, k0, k1, k2, k3, k4⟩ hKK
      refine ⟨fun hc => ?_, fun hc => ?_⟩
      · have := (nI_leI (by omega) (by omega)).mp hc
        obtain rfl : k = q := by omega
        exact fin k D2 k1 (Nat.le_refl k) k4 (fun z => absurd z (by omega))
      · have hlt : k < q := by
          rcases Nat.lt_or_ge k q with h' | h'
          · exact h'
          · exact absurd (nI_le h' (by omega)) hc
        have dk := all k hlt
        rw [tn_nI (n := k) (by omega), k3 k hlt]
        refine ⟨vp_in_nI (by omega) (by decide), ?_⟩
        rintro _ rfl
        have stop : ∀ C' : Nat → Bun, InvG FIs C' N S J → okW g jm (dgN D q) k = false → wX6_row S J (nI t) (nI D) (nI q) (fun r1 S1 => nI k = r1 ∧ InvG FIs C' N S1 J) := fun C' u ok => fin k C' u hk k4 (fun _ => ok)
        have main : ∀ b : Bool, b = ((k == 0) || (jm (dgN D q (k - 1))).testBit (dgN D q k)) → ((bI b = 0 → wX6_row S J (nI t) (nI D) (nI q) (fun r1 S1 => nI k = r1 ∧ InvG FIs D2 N S1 J)) ∧ (¬ (bI b = 0) → wX5_holds x (nI (dgN D q k)) (fun r29 => ((r29 = 0 → wX5_furrowsOf D2 N (nI t) (nI (dgN D q k)) (fun b33 C35 => (((C35 b33 0 6) = 0 → wX6_row S J (nI t) (nI D) (nI q) (fun r1 S1 => nI k = r1 ∧ InvG FIs C35 N S1 J)) ∧ (¬ ((C35 b33 0 6) = 0) → ∀ x36 : Int32, x36 = x ||| ((1 : Int32) <<< (nI (dgN D q k) &&& 31)) → ∀ x37 : Int32, x37 = nI k + (1 : Int32) → KK (x36, x37, C35))))) ∧ (¬ (r29 = 0) → wX6_row S J (nI t) (nI D) (nI q) (fun r1 S1 => nI k = r1 ∧ InvG FIs D2 N S1 J)))))) := by
          intro b hb
          refine br_b (fun z => stop D2 k1 ?_) (fun z => holds_b (by omega) (fun z2 => br_f (by decide) (stop D2 k1 ?_)) (fun z2 => br_t rfl ?_))
          · unfold okW stB; rw [← hb, z, Bool.false_and, Bool.and_false]
          · rw [k0 _ (by omega)] at z2
            have : niB (dgN D q) (dgN D q k) k = false := by
              cases e : niB (dgN D q) (dgN D q k) k with
              | false => rfl
              | true => rw [e] at z2; exact absurd z2 (by decide)
            unfold okW stB; rw [this, Bool.and_false, Bool.and_false]
          · rw [k0 _ (by omega)] at z2
            have ni : niB (dgN D q) (dgN D q k) k = true := by
              cases e : niB (dgN D q) (dgN D q k) k with
              | true => rfl
              | false => rw [e] at z2; exact absurd z2 (by decide)
            obtain ⟨⟨K, p, T, E, i, o, q1, q2, q3, q4⟩, _⟩ := hG _ dk
            have qD : QD D2 t (dgN D q k) K p T E i o := by unfold QD; rw [k2]; exact q1
            refine furrowsOf5 k1 (by omega) (by omega) qD (fun b2 F hF h1 h2 => ?_)
            have kb := k1.fur hF h1
            have hlen := whN_len (K := K) (B := bsN K T) (i := i) (o := o) q1.2.2.2.2.1
            have w6 : F 0 6 = nI (whN K (bsN K T) E i o).length := h2.2.2.2.2.2.2.1.2.1
            rw [up_s, w6, show nI (whN K (bsN K T) E i o).length = 0 ↔ (whN K (bsN K T) E i o).length = 0 from nI_eq (b := 0) hlen (by decide)]
            refine ⟨fun z3 => stop _ kb ?_, fun z3 => ?_⟩
            · unfold okW
              rw [q4, List.length_eq_zero_iff.mp z3]; rfl
            · rintro _ rfl _ rfl
              have ne0 : (0 : Nat) ≠ b2 := fun z => (isF_ne hF).1 z.symm
              have ne1 : (1 : Nat) ≠ b2 := fun z => (isF_ne hF).2.1 z.symm
              refine hKK _ _ _ hlt ⟨nI_1 k, fun f hf => ?_, kb, by rw [up_o ne1]; exact k2, fun j hj => by rw [up_o ne0]; exact k3 j hj, fun j hj => ?_⟩
              · show bt (x ||| bitI (dgN D q k)) f = !(niB (dgN D q) f k && (dgN D q k != f))
                rw [b_or, bitI_b (by omega) (by omega), k0 f hf]
                by_cases e : f = dgN D q k
                · rw [decide_eq_true e, e, bne_self_eq_false, Bool.and_false, Bool.or_true]; rfl
                · rw [decide_eq_false e, bne_iff_ne.mpr (fun z => e z.symm), Bool.and_true, Bool.or_false]
              · by_cases e : j = k
                · rw [e]
                  unfold okW stB
                  obtain ⟨mm, hmm⟩ := bst_some (l := whN K (bsN K T) E i o) (fun z => z3 (by rw [z]; rfl))
                  rw [← hb, z, ni, q4, hmm]; rfl
                · exact k4 j (by omega)
        refine wj ?_
        rw [show nI k = 0 ↔ k = 0 from nI_eq (b := 0) (by omega) (by decide)]
        refine ⟨fun z => main true (by rw [beq_iff_eq.mpr z]; rfl), fun z => ?_⟩
        have d1 := all (k - 1) (by omega)
        rw [n_pred (by omega), tn_nI (n := k - 1) (by omega), k3 (k - 1) (by omega), tn_nI (n := dgN D q (k - 1)) (by omega), k2, (hG _ d1).2.2.2]
        refine ⟨vp_in_nI (by omega) (by decide), vp_in_nI (by omega) (by decide), holds_b (by omega) (fun z2 => br_f (by decide) (main true ?_)) (fun z2 => br_t rfl (main false ?_))⟩
        · rw [bt_nI (by omega)] at z2
          rw [beq_eq_false_iff_ne.mpr z, z2]; rfl
        · rw [bt_nI (by omega)] at z2
          rw [beq_eq_false_iff_ne.mpr z, z2]; rfl
    · refine row6 (R := 0) hI hn es hm ms ht hq hP hG (fun _ S' u1 => both (i1.frl u1) (by decide) e_b) (fun D hD eD all dz => ?_)
      exfalso
      rcases bad with z | ⟨D2, hD2, e2, z⟩
      · rw [eD] at z
        have := nI_toInt hD; omega
      · rw [eD] at e2
        obtain rfl : D = D2 := (nI_eq hD hD2).mp e2
        exact z ⟨all, dz⟩
  · have hb := hbad (fun ⟨_, q, _, hq, _, e⟩ => hno q (by omega) hq e)
    refine ⟨fun _ => hb, fun hz => ⟨fun _ => hb, fun h2 => absurd ?_ hr⟩⟩
    rw [fa_lt, e0] at hz; rw [fa_lt, e6] at h2
    exact ⟨by omega, by omega⟩
end
