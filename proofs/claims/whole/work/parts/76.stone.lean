/-! stone -/
section
theorem fr_put {S S17 : Bun} {k : Nat} {v v' : Int32} (h : Fr (up S 1 k v) S17) : Fr (up S 1 k v') (up S17 1 k v') := by
  have r1 : S17 1 = up S 1 k v 1 := h.one
  refine ⟨fun r a b c d e f => ?_, fun j a b c d => ?_⟩
  · by_cases hr : r = 1
    · subst hr
      funext x
      rw [up_eq, up_eq, r1, up_eq]
      by_cases hx : x = k
      · rw [if_pos ⟨rfl, hx⟩, if_pos ⟨rfl, hx⟩]
      · rw [if_neg (fun z => hx z.2), if_neg (fun z => hx z.2), if_neg (fun z => hx z.2)]
    · rw [up_k hr, up_k hr, h.1 r a b c d e f, up_k hr]
  · rw [up_k (by decide), up_k (by decide), h.2 j a b c d, up_k (by decide)]
theorem fr_back {S S17 : Bun} {k : Nat} {v had : Int32} (h : Fr (up S 1 k v) S17) (e : S 1 k = had) : Fr S (up S17 1 k had) := by
  have := fr_put (v' := had) h
  rw [up_same e] at this
  exact this
theorem fr_self {S : Bun} {k : Nat} : Fr (up S 1 k (S 1 k)) S := by
  rw [up_same rfl]; exact Fr.rfl' S
theorem lo_stone_ok : lo_stone (InvG FIs) := by
  intro C N S J a1 a2 hI
  obtain ⟨n, hn, en⟩ := hI.1.1.1
  have es : S 1 0 = nI n := hI.1.2.1.trans en
  obtain ⟨m, hm, em⟩ := hI.1.1.2.1
  have ms : S 1 1 = nI m := hI.1.2.2.1.trans em
  have hbad : (¬ ∃ t f : Nat, t < m ∧ f < n ∧ a1 = nI t ∧ a2 = nI f) → wX5_finding C N 0 (fun r C1 => wX6_stone S J a1 a2 (fun r1 S1 => r = r1 ∧ InvG FIs C1 N S1 J)) := by
    intro hb
    refine find5 (k := 0) (by decide) ?_
    unfold wX6_stone
    have no := both (N := N) hI (k := 0) (by decide) e_b
    refine isT6 hm ms (fun t ht et => wj (br_f (by decide) ?_)) (fun _ => wj (br_t rfl no))
    exact isF6' hn es (fun f hf ef => absurd ⟨t, f, ht, hf, et, ef⟩ hb) (fun _ => br_t rfl no)
  unfold wX5_stone
  refine hasT5 hm em (fun t ht et => wj (br_f (by decide) ?_)) (fun h1 => wj (br_t rfl (hbad (fun ⟨t, _, ht, _, e, _⟩ => h1 t ht e))))
  refine hasF5 hn en (fun f hf ef => br_f (by decide) ?_) (fun h1 => br_t rfl (hbad (fun ⟨_, f, _, hf, _, e⟩ => h1 f hf e)))
  subst et ef
  have hf6 : f < 6 := by omega
  have ht6 : t < 6 := by omega
  obtain ⟨K, p, T, E, i, o, hQ, hQ6, hp6⟩ := QD_of (f := f) hI hm em ht hf6
  obtain ⟨⟨ek, ep, eT, eE, ei, eo⟩, hK, hp, hT, hE, gi, go⟩ := hQ
  obtain ⟨q1, q2, q3, q4, q5⟩ := hQ6
  have w0 := (hI.1.1.2.2.1 f hf6).1 0 (by decide)
  obtain ⟨sN, hsN, esN⟩ := of_toInt (n := 65536) w0.1 (by omega) (by decide)
  have esN' : C 1 3 (6 * f) = nI sN := esN
  have s0 : S 1 (2 + 6 * f) = nI sN := (hI.1.2.2.2.1 (6 * f) (by omega)).trans esN'
  have ex : ∀ c : Nat, ∃ v : Option Nat, (c < 16 → sN.testBit c = true → ∃ E', E' < 65536 ∧ earthOf (nI sN &&& (bitI c ^^^ (-1))) (nI T) = nI E' ∧ v = cstN K p (bst (whN K (bsN K T) E' i o))) ∧ (¬ (c < 16 ∧ sN.testBit c = true) → v = none) := by
    intro c
    by_cases hc : c < 16 ∧ sN.testBit c = true
    · obtain ⟨E', hE', eE'⟩ := earth_n (nI sN &&& (bitI c ^^^ (-1))) (nI T)
      exact ⟨_, fun _ _ => ⟨E', hE', eE', rfl⟩, fun z => absurd hc z⟩
    · exact ⟨none, fun a b => absurd ⟨a, b⟩ hc, fun _ => rfl⟩
  obtain ⟨g, hg⟩ := Classical.axiomOfChoice ex
  have gb : ∀ i v, g i = some v → v < 1000000 := by
    intro c v hv
    by_cases hc : c < 16 ∧ sN.testBit c = true
    · obtain ⟨E', hE', _, e⟩ := (hg c).1 hc.1 hc.2
      rw [e] at hv
      have := cst_bnd hE' hK hp.2 hv
      omega
    · rw [(hg c).2 hc] at hv; cases hv
  have x0 : (2 : Int32) + 6 * nI f + 0 = nI (2 + 6 * f) := ix_s (w := 0) hf6 (by decide)
  have v0 : vp_in (nI (2 + 6 * f)) 56 := vp_in_nI (by omega) (by decide)
  have m6 : ∀ {post : Int32 → Bun → Prop}, (∀ S' : Bun, Fr S S' → ((0 ≤ pkF (pkN g 16) → post (pkF (pkN g 16)) S') ∧ (¬ (0 ≤ pkF (pkN g 16)) → wX6_finds S' J (-1000000004) (fun r25 S27 => post r25 S27)))) → wX6_stone S J (nI t) (nI f) post := by
    intro post hpost
    unfold wX6_stone
    refine isT6 hm ms (fun _ _ _ => wj (br_f (by decide) ?_)) (fun h => absurd rfl (h t ht))
    refine isF6' hn es (fun _ _ _ => br_f (by decide) ?_) (fun h => absurd rfl (h f hf))
    refine its6 (w := 0) hf6 (by decide) ?_
    rw [x0, tn_nI (by omega), show S 1 (2 + (6 * f + 0)) = nI sN from s0]
    refine wl_up4 (fun j x y z S6 => x = pkF (pkN g j) ∧ y = pkB (pkN g j) ∧ z = nI j ∧ ∃ v, Fr (up S 1 (2 + 6 * f) v) S6) 16 ?_ (i := 0) (by omega) ⟨rfl, rfl, rfl, _, fr_self⟩
    rintro j x y z S6 KK hj ⟨rfl, rfl, rfl, v, k1⟩ hKK
    refine ⟨fun hc => ⟨v0, ?_⟩, fun hc => ?_⟩
    · have := (nI_leI (a := 16) (by decide) (by omega)).mp hc
      obtain rfl : j = 16 := by omega
      rintro _ rfl
      exact hpost _ (fr_back k1 s0)
    · have hlt : j < 16 := by
        rcases Nat.lt_or_ge j 16 with h' | h'
        · exact h'
        · exact absurd (nI_le (a := 16) h' (by omega)) hc
      refine has_b (by omega) (fun hl => br_f (by decide) ⟨v0, ?_⟩) (fun hl => br_t rfl ?_)
      · rw [bt_nI (by omega)] at hl
        obtain ⟨E', hE', eE', e⟩ := (hg j).1 hlt hl
        rintro _ rfl
        have k2 := fr_put (v' := nI sN &&& (bitI j ^^^ (-1))) k1
        have r1 := k2.one
        refine costOf6 (K := K) (T := T) (E := E') (i := i) (o := o) (p := p) ht6 hf6 hK hT hE' gi go ?_ ?_ (fun S' u1 u2 => ?_)
        · show Q6 (up S6 1 (2 + 6 * f) (nI sN &&& (bitI j ^^^ (-1)))) t f K T E' i o
          unfold Q6
          rw [r1, up_ki (by omega), up_ki (by omega), up_ss, up_ki (by omega), up_ki (by omega)]
          exact ⟨q1, q2, by rw [q2]; exact eE', q4, q5⟩
        · show up S6 1 (2 + 6 * f) (nI sN &&& (bitI j ^^^ (-1))) 1 (45 + 2 * t) = nI p
          rw [r1, up_ki (by omega)]; exact hp6
        · rw [← e]
          refine pk6 (by omega) gb (Q := fun a b => ∀ x : Int32, x = nI j + (1 : Int32) → KK (a, b, x, S')) ?_
          rintro _ rfl
          exact hKK _ _ _ _ hlt ⟨rfl, rfl, nI_1 j, _, k2.tr u1⟩
      · rw [bt_nI (by omega)] at hl
        rintro _ rfl
        refine hKK _ _ _ _ hlt ⟨?_, ?_, nI_1 j, v, k1⟩
        · rw [pk_no ((hg j).2 (fun z => by rw [hl] at z; exact absurd z.2 (by decide)))]
        · rw [pk_no ((hg j).2 (fun z => by rw [hl] at z; exact absurd z.2 (by decide)))]
  refine mark5 (w := 0) hf6 (by decide) ?_
  rw [show C 1 3 (6 * f + 0) = nI sN from esN']
  refine wl_up4 (fun j x y z D => x = pkA (pkN g j) ∧ y = pkF (pkN g j) ∧ z = nI j ∧ InvG FIs D N S J ∧ D 1 = C 1) 16 ?_ (i := 0) (by omega) ⟨rfl, rfl, rfl, hI, rfl⟩
  rintro j x y z D KK hj ⟨rfl, rfl, rfl, k1, k2⟩ hKK
  refine ⟨fun hc => ?_, fun hc => ?_⟩
  · have := (nI_leI (a := 16) (by decide) (by omega)).mp hc
    obtain rfl : j = 16 := by omega
    refine ⟨fun q => m6 (fun S' u1 => br_t q ⟨rfl, k1.fr u1⟩), fun q => find5 (k := 3) (by decide) (m6 (fun S' u1 => br_f q (both (k1.fr u1) (by decide) e_n)))⟩
  · have hlt : j < 16 := by
      rcases Nat.lt_or_ge j 16 with h' | h'
      · exact h'
      · exact absurd (nI_le (a := 16) h' (by omega)) hc
    refine holds_b (by omega) (fun hl => br_f (by decide) ?_) (fun hl => br_t rfl ?_)
    · rw [bt_nI (by omega)] at hl
      obtain ⟨E', hE', eE', e⟩ := (hg j).1 hlt hl
      unfold wX5_costWithout
      rw [k2]
      refine mark5 (w := 1) hf6 (by decide) (mark5 (w := 0) hf6 (by decide) ?_)
      rintro _ rfl _ rfl
      rw [tn_nI (by omega), ek, show C 1 3 (6 * f + 0) = nI sN from esN', eT, show (65535 : Int32) &&& (((nI sN &&& (((1 : Int32) <<< (nI j &&& 31)) ^^^ (-1))) ||| nI T) ^^^ (-1)) = nI E' from eE']
      refine ⟨vp_in_nI ht6 (by decide), mark5 (w := 2) hf6 (by decide) (mark5 (w := 3) hf6 (by decide) ?_)⟩
      rw [ei, eo]
      have h6 : isF 6 := Or.inl rfl
      refine ask5 (k1.2.2.2.2.2.2 6 h6) hK hE' gi go (fun F u1 u2 => ?_)
      rintro _ rfl
      have ne : (1 : Nat) ≠ 6 := by decide
      refine costOf5 h6 ht6 hK hE' (B := bsN K T) (i := i) (o := o) (p := p) (by rw [up_o ne, k2]; exact ek) (by rw [up_o ne, k2]; exact ep) (by rw [up_s]; exact u2) ?_
      rw [← e]
      refine pk5 gb (Q := fun a b' => ∀ x : Int32, x = nI j + (1 : Int32) → KK (a, b', x, va_up D 6 F)) ?_
      rintro _ rfl
      exact hKK _ _ _ _ hlt ⟨rfl, rfl, nI_1 j, k1.fur h6 u1, by rw [up_o ne]; exact k2⟩
    · rw [bt_nI (by omega)] at hl
      rintro _ rfl
      refine hKK _ _ _ _ hlt ⟨?_, ?_, nI_1 j, k1, k2⟩
      · rw [pk_no ((hg j).2 (fun z => by rw [hl] at z; exact absurd z.2 (by decide)))]
      · rw [pk_no ((hg j).2 (fun z => by rw [hl] at z; exact absurd z.2 (by decide)))]
end
