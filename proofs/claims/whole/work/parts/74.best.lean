/-! many, best, missed -/
section
theorem lo_many_ok : lo_many (InvG FIs) := by
  intro C N S J a1 a2 hI
  obtain ⟨n, hn, en⟩ := hI.1.1.1
  have es : S 1 0 = nI n := hI.1.2.1.trans en
  obtain ⟨m, hm, em⟩ := hI.1.1.2.1
  have ms : S 1 1 = nI m := hI.1.2.2.1.trans em
  have hbad : (¬ ∃ t f : Nat, t < m ∧ f < n ∧ a1 = nI t ∧ a2 = nI f) → wX5_finding C N 0 (fun r C1 => wX6_many S J a1 a2 (fun r1 S1 => r = r1 ∧ InvG FIs C1 N S1 J)) := by
    intro hb
    refine find5 (k := 0) (by decide) ?_
    unfold wX6_many
    have no := both (N := N) hI (k := 0) (by decide) e_b
    refine isT6 hm ms (fun t ht et => wj (br_f (by decide) ?_)) (fun _ => wj (br_t rfl no))
    exact isF6' hn es (fun f hf ef => absurd ⟨t, f, ht, hf, et, ef⟩ hb) (fun _ => br_t rfl no)
  unfold wX5_many
  refine hasT5 hm em (fun t ht et => wj (br_f (by decide) ?_)) (fun h1 => wj (br_t rfl (hbad (fun ⟨t, _, ht, _, e, _⟩ => h1 t ht e))))
  refine hasF5 hn en (fun f hf ef => br_f (by decide) ?_) (fun h1 => br_t rfl (hbad (fun ⟨_, f, _, hf, _, e⟩ => h1 f hf e)))
  subst et ef
  obtain ⟨K, p, T, E, i, o, hQ, hQ6, hp6⟩ := QD_of (f := f) hI hm em ht (by omega)
  refine furrowsOf5 hI (by omega) (by omega) hQ (fun b F hF h1 h2 => ?_)
  obtain ⟨_, hK, hp, hT, hE, gi, go⟩ := hQ
  rw [up_s, h2.2.2.2.2.2.2.1.2.1]
  unfold wX6_many
  refine isT6 hm ms (fun _ _ _ => wj (br_f (by decide) ?_)) (fun h => absurd rfl (h t ht))
  refine isF6' hn es (fun _ _ _ => br_f (by decide) ?_) (fun h => absurd rfl (h f hf))
  refine furrows6 (by omega) (by omega) hK hT hE gi go hQ6 (fun S' u1 u2 => ?_)
  exact ⟨(u2.filt (W := whN K (bsN K T) E i o) rfl).1.symm, (hI.fur hF h1).fr u1⟩
theorem lo_missed_ok : lo_missed (InvG FIs) := by
  intro C N S J a1 a2 hI
  obtain ⟨n, hn, en⟩ := hI.1.1.1
  have es : S 1 0 = nI n := hI.1.2.1.trans en
  obtain ⟨m, hm, em⟩ := hI.1.1.2.1
  have ms : S 1 1 = nI m := hI.1.2.2.1.trans em
  have hbad : (¬ ∃ t f : Nat, t < m ∧ f < n ∧ a1 = nI t ∧ a2 = nI f) → wX5_finding C N 0 (fun r C1 => wX6_missed S J a1 a2 (fun r1 S1 => r = r1 ∧ InvG FIs C1 N S1 J)) := by
    intro hb
    refine find5 (k := 0) (by decide) ?_
    unfold wX6_missed
    have no := both (N := N) hI (k := 0) (by decide) e_b
    refine isT6 hm ms (fun t ht et => wj (br_f (by decide) ?_)) (fun _ => wj (br_t rfl no))
    exact isF6' hn es (fun f hf ef => absurd ⟨t, f, ht, hf, et, ef⟩ hb) (fun _ => br_t rfl no)
  unfold wX5_missed
  refine hasT5 hm em (fun t ht et => wj (br_f (by decide) ?_)) (fun h1 => wj (br_t rfl (hbad (fun ⟨t, _, ht, _, e, _⟩ => h1 t ht e))))
  refine hasF5 hn en (fun f hf ef => br_f (by decide) ?_) (fun h1 => br_t rfl (hbad (fun ⟨_, f, _, hf, _, e⟩ => h1 f hf e)))
  subst et ef
  obtain ⟨K, p, T, E, i, o, hQ, hQ6, hp6⟩ := QD_of (f := f) hI hm em ht (by omega)
  refine furrowsOf5 hI (by omega) (by omega) hQ (fun b F hF h1 h2 => ?_)
  obtain ⟨_, hK, hp, hT, hE, gi, go⟩ := hQ
  rw [up_s]
  have c16 := cd_le E
  have ll := lng_le (K := K) (B := bsN K T) (i := i) (o := o) hE
  refine longest5 ⟨hK, hE, bsN_lt K T, gi, go⟩ h1 h2 (fun F2 h3 h4 => ?_)
  rintro _ rfl
  rw [va_twice, up_s, h4.2.2.2.2.2.1]
  have hI2 := hI.fur hF h3
  have m6 : ∀ {post : Int32 → Bun → Prop}, (∀ S' : Bun, Fr S S' → (lngN K (bsN K T) E i o = 0 → wX6_finds S' J (-1000000004) (fun r20 S22 => post r20 S22)) ∧ (lngN K (bsN K T) E i o ≠ 0 → post (nI (cdN E) - nI (lngN K (bsN K T) E i o)) S')) → wX6_missed S J (nI t) (nI f) post := by
    intro post hp
    unfold wX6_missed
    refine isT6 hm ms (fun _ _ _ => wj (br_f (by decide) ?_)) (fun h => absurd rfl (h t ht))
    refine isF6' hn es (fun _ _ _ => br_f (by decide) ?_) (fun h => absurd rfl (h f hf))
    refine furrows6 (by omega) (by omega) hK hT hE gi go hQ6 (fun S' u1 u2 => ?_)
    have e : S' 0 12 = nI (lngN K (bsN K T) E i o) := u2.2.2.2.2.2
    rw [e, show nI (lngN K (bsN K T) E i o) = 0 ↔ lngN K (bsN K T) E i o = 0 from nI_eq (b := 0) (by omega) (by decide)]
    refine ⟨fun z => (hp S' u1).1 z, fun z => earth6 (by omega) ?_⟩
    rw [(hQ6.fr u1).2.2.1]
    refine ones_n hE ?_
    rw [cd_pc hE]
    exact (hp S' u1).2 z
  rw [show nI (lngN K (bsN K T) E i o) = 0 ↔ lngN K (bsN K T) E i o = 0 from nI_eq (b := 0) (by omega) (by decide)]
  refine ⟨fun z => find5 (k := 3) (by decide) (m6 (fun S' u1 => ⟨fun _ => both (hI2.fr u1) (by decide) e_n, fun y => absurd z y⟩)), fun z => m6 (fun S' u1 => ⟨fun y => absurd y z, fun _ => ⟨rfl, hI2.fr u1⟩⟩)⟩
/-- -2, -1, or a cell -/
theorem in_2 {x : Int32} {post : Int32 → Prop} (h1 : -2 ≤ x.toInt → x.toInt ≤ 15 → post 1) (h0 : ¬ (-2 ≤ x.toInt ∧ x.toInt ≤ 15) → post 0) : wX6_in x.toInt64 (-2 : Int64) (15 : Int64) post := by
  have el : (-2 : Int64).toInt = -2 := by decide
  have eh : (15 : Int64).toInt = 15 := by decide
  refine in_i (fun p q => ?_) (fun z => ?_)
  · rw [el] at p; rw [eh] at q; exact h1 p q
  · rw [el, eh] at z; exact h0 z
theorem lo_best_ok : lo_best (InvG FIs) := by
  intro C N S J a1 a2 a3 hI
  obtain ⟨n, hn, en⟩ := hI.1.1.1
  have es : S 1 0 = nI n := hI.1.2.1.trans en
  obtain ⟨m, hm, em⟩ := hI.1.1.2.1
  have ms : S 1 1 = nI m := hI.1.2.2.1.trans em
  have hbad : (¬ ∃ t f : Nat, t < m ∧ f < n ∧ (-2 ≤ a3.toInt ∧ a3.toInt ≤ 15) ∧ a1 = nI t ∧ a2 = nI f) → wX5_finding C N 0 (fun r C1 => wX6_best S J a1 a2 a3 (fun r1 S1 => r = r1 ∧ InvG FIs C1 N S1 J)) := by
    intro hb
    refine find5 (k := 0) (by decide) ?_
    unfold wX6_best
    have no := both (N := N) hI (k := 0) (by decide) e_b
    refine isT6 hm ms (fun t ht et => wj (br_f (by decide) ?_)) (fun _ => wj (br_t rfl no))
    refine isF6' hn es (fun f hf ef => br_f (by decide) ?_) (fun _ => br_t rfl no)
    exact in_2 (fun p q => absurd ⟨t, f, ht, hf, ⟨p, q⟩, et, ef⟩ hb) (fun _ => br_t rfl no)
  have em2 : (-2 : Int32).toInt = -2 := rfl
  have em1 : (-1 : Int32).toInt = -1 := rfl
  have e16 : (16 : Int32).toInt = 16 := rfl
  unfold wX5_best
  refine hasT5 hm em (fun t ht et => wj (br_f (by decide) ?_)) (fun h1 => wj (br_t rfl (hbad (fun ⟨t, _, ht, _, _, e, _⟩ => h1 t ht e))))
  refine hasF5 hn en (fun f hf ef => br_f (by decide) ?_) (fun h1 => br_t rfl (hbad (fun ⟨_, f, _, hf, _, _, e⟩ => h1 f hf e)))
  refine ⟨fun z => hbad (fun ⟨_, _, _, _, q, _⟩ => by rw [fa_lt, em2] at z; omega), fun z => ⟨fun z2 => ?_, fun z2 => hbad (fun ⟨_, _, _, _, q, _⟩ => by rw [fa_lt, e16] at z2; omega)⟩⟩
  rw [fa_lt, em2] at z
  rw [fa_lt, e16] at z2
  subst et ef
  obtain ⟨K, p, T, E, i, o, hQ, hQ6, hp6⟩ := QD_of (f := f) hI hm em ht (by omega)
  refine furrowsOf5 hI (by omega) (by omega) hQ (fun b F hF h1 h2 => ?_)
  obtain ⟨⟨ek, ep, _⟩, hK, hp, hT, hE, gi, go⟩ := hQ
  have hI2 := hI.fur hF h1
  have c16 := cd_le E
  have h2' := h2
  obtain ⟨_, _, _, _, _, a5, ⟨r0, r1, r2, r3, r4⟩, _⟩ := h2'
  have hlen := whN_len (K := K) (B := bsN K T) (i := i) (o := o) hE
  -- the model
  have m6 : ∀ {post : Int32 → Bun → Prop}, (∀ S' : Bun, Fr S S' → RM (cdN E) o (allN K (bsN K T) E i o) S' → wjoin (σ := Unit) (fun _ => wX6_finds S' J (-1000000004) (fun r21 S23 => post r21 S23)) (fun J18 => ((gI (cstN K p (bst (whN K (bsN K T) E i o))) < 0 → J18 ()) ∧ (¬ (gI (cstN K p (bst (whN K (bsN K T) E i o))) < 0) → ((a3 < (S' 0 13) → ((a3 = (-1 : Int32) → post (gI (cstN K p (bst (whN K (bsN K T) E i o)))) S') ∧ (¬ (a3 = (-1 : Int32)) → ((a3 = (-2 : Int32) → post (S' 0 11) S') ∧ (¬ (a3 = (-2 : Int32)) → vp_in a3 16 ∧ post (S' 10 a3.toNatClampNeg) S'))))) ∧ (¬ (a3 < (S' 0 13)) → J18 ())))))) → wX6_best S J (nI t) (nI f) a3 post := by
    intro post hp
    unfold wX6_best
    refine isT6 hm ms (fun _ _ _ => wj (br_f (by decide) ?_)) (fun h => absurd rfl (h t ht))
    refine isF6' hn es (fun _ _ _ => br_f (by decide) ?_) (fun h => absurd rfl (h f hf))
    refine in_2 (fun _ _ => br_f (by decide) ?_) (fun q => absurd ⟨by omega, by omega⟩ q)
    exact costOf6 (by omega) (by omega) hK hT hE gi go hQ6 hp6 (fun S' u1 u2 => hp S' u1 u2)
  rw [up_s, r1, a5]
  have noneC : (∀ S' : Bun, Fr S S' → RM (cdN E) o (allN K (bsN K T) E i o) S' → gI (cstN K p (bst (whN K (bsN K T) E i o))) < 0 ∨ ¬ a3 < S' 0 13) → wX5_finding (va_up C b F) N (3 : Int32) (fun r C1 => wX6_best S J (nI t) (nI f) a3 (fun r1 S1 => r = r1 ∧ InvG FIs C1 N S1 J)) := by
    intro hq
    refine find5 (k := 3) (by decide) (m6 (fun S' u1 u2 => wj ⟨fun _ => both (hI2.fr u1) (by decide) e_n, fun y => ⟨fun y2 => ?_, fun _ => both (hI2.fr u1) (by decide) e_n⟩⟩))
    rcases hq S' u1 u2 with q | q
    · exact absurd q y
    · exact absurd y2 q
  refine wj ⟨fun q => noneC (fun S' _ _ => Or.inl ?_), fun q => ?_⟩
  · have q' : (whN K (bsN K T) E i o).length = 0 := (nI_eq (b := 0) hlen (by decide)).mp q
    rw [List.length_eq_zero_iff.mp q']
    exact (by decide : gI none < 0)
  · obtain ⟨x, hx⟩ := bst_some (l := whN K (bsN K T) E i o) (fun y => q (by rw [y]; rfl))
    obtain ⟨b1, b2, b3⟩ := wh_bnd hE hx
    have len : ∀ S' : Bun, RM (cdN E) o (allN K (bsN K T) E i o) S' → S' 0 13 = nI (cdN E) := by
      intro S' u2
      have := (u2.filt (W := whN K (bsN K T) E i o) rfl).2.2.1
      rw [this, hx, ← b1]; rfl
    refine ⟨fun y => ?_, fun y => noneC (fun S' _ u2 => Or.inr (by rw [len S' u2]; exact y))⟩
    have cst : ¬ gI (cstN K p (bst (whN K (bsN K T) E i o))) < 0 := by
      cases hc : cstN K p (bst (whN K (bsN K T) E i o)) with
      | none => rw [hx] at hc; cases hc
      | some v => exact nI_pos (by have := cst_bnd hE hK hp.2 hc; omega)
    refine ⟨fun w => ?_, fun w => ⟨fun w2 => ?_, fun w2 => ?_⟩⟩
    · refine costOf5 hF (by omega) hK hE (B := bsN K T) (i := i) (o := o) (p := p) (by rw [up_o (fun z => (isF_ne hF).2.1 z.symm)]; exact ek) (by rw [up_o (fun z => (isF_ne hF).2.1 z.symm)]; exact ep) (by rw [up_s]; exact h2) ?_
      refine m6 (fun S' u1 u2 => wj (br_f cst (br_t (by rw [len S' u2]; exact y) (br_t w ⟨?_, hI2.fr u1⟩))))
      cases hc : cstN K p (bst (whN K (bsN K T) E i o)) with
      | none => rw [hx] at hc; cases hc
      | some v => rfl
    · refine m6 (fun S' u1 u2 => wj (br_f cst (br_t (by rw [len S' u2]; exact y) (br_f w (br_t w2 ⟨?_, hI2.fr u1⟩)))))
      rw [(r2 x hx).1, (u2.filt (W := whN K (bsN K T) E i o) rfl).2.1, hx]; rfl
    · rw [fa_eq, em1] at w
      rw [fa_eq, em2] at w2
      obtain ⟨k, hk, ek3⟩ := of_toInt (x := a3) (n := 16) (by omega) (by omega) (by decide)
      have vk : vp_in a3 16 := by rw [ek3]; exact vp_in_nI hk (by decide)
      refine ⟨vk, m6 (fun S' u1 u2 => wj (br_f cst (br_t (by rw [len S' u2]; exact y) (br_f (by rw [fa_eq, em1]; exact w) (br_f (by rw [fa_eq, em2]; exact w2) ⟨vk, ?_, hI2.fr u1⟩)))))⟩
      rw [ek3] at y
      have : k < cdN E := (nI_ltI (by omega) (by omega)).mp y
      rw [ek3, tn_nI (by omega), (r2 x hx).2 k (by omega), (u2.filt (W := whN K (bsN K T) E i o) rfl).2.2.2 x hx k (by omega)]
end
