/-! draw -/
section
variable {C : Nat → Bun} {N : Nat → Lon} {S : Bun} {J : Lon}
theorem all_lt {K B E : Nat} {i o : Option Nat} {m : Nod} (hE : E < 65536) (h : m ∈ allN K B E i o) : ∀ k, k < m.1 → m.2.1 k < 16 := by
  obtain ⟨s, hs, hm⟩ := mem_cat h
  cases hok : stOk E i o s with
  | false => rw [stN_f hok] at hm; cases hm
  | true =>
    rw [stN_t hok] at hm
    obtain ⟨p1, p2, p3⟩ := nds_path 17 1 (fun _ => s) (delN E s) s none false 0 (del_lt hE) (Nat.le_refl 1) rfl m hm
    intro k hk
    by_cases e : k = 0
    · rw [e, p2 0 (by decide)]; exact hs
    · exact bit_hi (del_lt hE) (p3 k (by omega) hk).1
theorem nar_c {b : Int32} {x : Nat} (hx : x < 16) : nar b (nI x).toInt64 = (nI x).toInt64 := by
  unfold nar
  split
  · exact (show ∀ x, x < 16 → (nI x).toInt64.toInt32.toInt8.toInt32.toInt64 = (nI x).toInt64 by decide +kernel) x hx
  · split
    · exact (show ∀ x, x < 16 → (nI x).toInt64.toInt32.toInt16.toInt32.toInt64 = (nI x).toInt64 by decide +kernel) x hx
    · rfl
theorem draw6 {S : Bun} {J : Lon} {s t f K p T E n m q : Nat} {i o : Option Nat} (hn : n ≤ 6) (es : S 1 0 = nI n) (hm : m ≤ 6) (ms : S 1 1 = nI m) (hs : s < 4) (ht : t < m) (hf : f < n) (hK : K < 6) (hp9 : p ≤ 9) (hT : T < 65536) (hE : E < 65536) (gi : gOk i) (go : gOk o) (hQ6 : Q6 S t f K T E i o) (hp6 : S 1 (45 + 2 * t) = nI p) (hb : S 30 s ≠ 0) (hq : q ≤ 40) (eq : S 31 s = nI q) {post : Int32 → Bun → Lon → Prop}
    (hno : whN K (bsN K T) E i o = [] → ∀ S' : Bun, Fr S S' → wX6_finds S' J (-1000000004) (fun r x => post r x J))
    (hyes : ∀ x : Nod, bst (whN K (bsN K T) E i o) = some x → ∀ S' : Bun, Fr S S' → ∀ J' : Lon, (∀ k, J' 32 k = if 40 * s ≤ k ∧ k < 40 * s + min q x.1 then (nI (x.2.1 (k - 40 * s))).toInt64 else J 32 k) → post (nI (min q x.1)) S' J') : wX6_draw S J (nI s) (nI t) (nI f) post := by
  have vs : vp_in (nI s) 4 := vp_in_nI hs (by decide)
  unfold wX6_draw
  refine wrong6 (fun q => absurd rfl (q s hs)) (fun h2 hh2 e2 q => ?_) (fun h2 hh2 e2 _ => br_t rfl ?_)
  · obtain rfl : s = h2 := (nI_eq (by omega) (by omega)).mp e2
    exact absurd q hb
  refine isT6 hm ms (fun _ _ _ => wj (br_f (by decide) ?_)) (fun h => absurd rfl (h t ht))
  refine isF6' hn es (fun _ _ _ => br_f (by decide) ?_) (fun h => absurd rfl (h f hf))
  refine costOf6 (by omega) (by omega) hK hT hE gi go hQ6 hp6 (fun S' u1 u2 => ?_)
  cases hbs : bst (whN K (bsN K T) E i o) with
  | none =>
    have w0 : whN K (bsN K T) E i o = [] := by
      cases hw : whN K (bsN K T) E i o with
      | nil => rfl
      | cons a l =>
        obtain ⟨z, hz⟩ := bst_some (l := whN K (bsN K T) E i o) (by rw [hw]; exact List.cons_ne_nil _ _)
        rw [hz] at hbs; cases hbs
    exact br_f (show ¬ (0 : Int32) ≤ -1 by decide) (hno w0 S' u1)
  | some x =>
    obtain ⟨b1, b2, b3⟩ := wh_bnd hE hbs
    obtain ⟨f1, f2, f3, f4⟩ := u2.filt (W := whN K (bsN K T) E i o) rfl
    have f4' := f4 x hbs
    rw [hbs] at f3
    have f3' : S' 0 13 = nI x.1 := f3
    have s31 : S' 31 = S 31 := u1.1 31 (by decide) (by decide) (by decide) (by decide) (by decide) (by decide)
    have hc : 0 ≤ gI (cstN K p (some x)) := by
      have : cstN K p (bst (whN K (bsN K T) E i o)) = some (p * x.1 + drN K * x.2.2) := by rw [hbs]; rfl
      have := cst_bnd hE hK hp9 this
      exact nI_pos' (by omega)
    have loop : ∀ r : Nat, r = min q x.1 → wloop (σ := Int32 × Lon) (fun K21 z => match z with | (x19, J20) => ((nI r ≤ x19 → post (nI r) S' J20) ∧ (¬ (nI r ≤ x19) → vp_in x19 16 ∧ vp_in (((40 : Int32) * nI s) + x19) 160 ∧ ∀ J27 : Lon, J27 = upL J20 32 (((40 : Int32) * nI s) + x19).toNatClampNeg ((S' 10 x19.toNatClampNeg).toInt64) → ∀ x28 : Int32, x28 = x19 + (1 : Int32) → K21 (x28, J27)))) ((0 : Int32), J) := by
      rintro r hr
      refine wl_up2 (fun j y G => y = nI j ∧ ∀ k, G 32 k = if 40 * s ≤ k ∧ k < 40 * s + j then (nI (x.2.1 (k - 40 * s))).toInt64 else J 32 k) r ?_ (i := 0) (by omega) ⟨rfl, fun k => by rw [if_neg (by omega)]⟩
      rintro j y G KK hj ⟨rfl, k1⟩ hKK
      refine ⟨fun hc => ?_, fun hc => ?_⟩
      · have := (nI_leI (by omega) (by omega)).mp hc
        obtain rfl : j = r := by omega
        rw [hr] at k1 ⊢
        exact hyes x hbs S' u1 G k1
      · have hlt : j < r := by
          rcases Nat.lt_or_ge j r with h' | h'
          · exact h'
          · exact absurd (nI_le h' (by omega)) hc
        rw [ix40 hs (by omega), tn_nI (n := j) (by omega), tn_nI (n := 40 * s + j) (by omega), f4' j (by omega)]
        refine ⟨vp_in_nI (by omega) (by decide), vp_in_nI (by omega) (by decide), ?_⟩
        rintro _ rfl _ rfl
        refine hKK _ _ hlt ⟨nI_1 j, fun k => ?_⟩
        rw [upL_eq, k1]
        by_cases e : k = 40 * s + j
        · rw [if_pos ⟨rfl, e⟩, if_pos (by omega), e, Nat.add_sub_cancel_left]
        · rw [if_neg (fun z => e z.2)]
          by_cases e2 : 40 * s ≤ k ∧ k < 40 * s + j
          · rw [if_pos e2, if_pos (by omega)]
          · rw [if_neg e2, if_neg (by omega)]
    refine br_t hc ⟨vs, ?_⟩
    rw [tn_nI (n := s) (by omega), s31, eq, f3']
    refine ⟨fun z => ⟨vs, ?_⟩, fun z => ?_⟩
    · have := (nI_leI (by omega) (by omega)).mp z
      rintro _ rfl
      exact loop q (by omega)
    · have : ¬ q ≤ x.1 := fun y => z (nI_le y (by omega))
      rintro _ rfl
      exact loop x.1 (by omega)
theorem lo_draw_ok : lo_draw (InvG FIs) := by
  intro C N S J a1 a2 a3 hI
  obtain ⟨n, hn, en⟩ := hI.1.1.1
  have es : S 1 0 = nI n := hI.1.2.1.trans en
  obtain ⟨m, hm, em⟩ := hI.1.1.2.1
  have ms : S 1 1 = nI m := hI.1.2.2.1.trans em
  unfold wX5_draw
  refine lookAt5 hI hn en hm em (fun z => br_f (by decide) (find5 (k := 0) (by decide) ?_)) (fun h hh e z => br_f (by decide) (find5 (k := 5) (by decide) ?_)) (fun h hh e z z2 => br_f (by decide) (find5 (k := 0) (by decide) ?_)) (fun s t f hs ht hf e1 hb e2 e3 => br_t (by decide) ?_)
  · unfold wX6_draw
    exact wrong6 (fun _ => br_f (by decide) (both hI (by decide) e_b)) (fun h hh e => absurd e (z h hh)) (fun h hh e => absurd e (z h hh))
  · unfold wX6_draw
    refine wrong6 (fun q => absurd e (q h hh)) (fun _ _ _ _ => br_f (by decide) (both hI (by decide) e_m)) (fun h2 hh2 e2 q => ?_)
    rw [e] at e2
    obtain rfl : h = h2 := (nI_eq (by omega) (by omega)).mp e2
    exact absurd z q
  · unfold wX6_draw
    refine wrong6 (fun q => absurd e (q h hh)) (fun h2 hh2 e2 q => ?_) (fun h2 hh2 e2 q => br_t rfl ?_)
    · rw [e] at e2
      obtain rfl : h = h2 := (nI_eq (by omega) (by omega)).mp e2
      exact absurd q z
    refine isT6 hm ms (fun t ht et => wj (br_f (by decide) ?_)) (fun _ => wj (br_t rfl (both hI (by decide) e_b)))
    exact isF6' hn es (fun f hf ef => absurd ⟨t, f, ht, hf, et, ef⟩ z2) (fun _ => br_t rfl (both hI (by decide) e_b))
  · subst e1 e2 e3
    obtain ⟨K, p, T, E, i, o, hQ, hQ6, hp6⟩ := QD_of (f := f) hI hm em ht (by omega)
    refine furrowsOf5 hI (by omega) (by omega) hQ (fun b F hF h1 h2 => ?_)
    obtain ⟨⟨ek, ep, _⟩, hK, hp, hT, hE, gi, go⟩ := hQ
    have hI2 := hI.fur hF h1
    have h2' := h2
    obtain ⟨_, _, _, _, _, a5, ⟨r0, r1, r2, r3, r4⟩, _⟩ := h2'
    have hlen := whN_len (K := K) (B := bsN K T) (i := i) (o := o) hE
    obtain ⟨c0, c1, ⟨q, hq, eq⟩, ok, z0, cN⟩ := hI2.2.2.2.2.2.1 s hs
    rw [up_s, r1, a5, tn_nI (n := s) (by omega), c1, eq]
    have nb : s + 7 ≠ b := fun z => (isF_ne hF).2.2.2.2.2.2 s hs z.symm
    refine ⟨fun z => ?_, fun z => ⟨vp_in_nI hs (by decide), ?_⟩⟩
    · have w0 : whN K (bsN K T) E i o = [] := List.length_eq_zero_iff.mp ((nI_eq (b := 0) hlen (by decide)).mp z)
      exact find5 (k := 3) (by decide) (draw6 hn es hm ms hs ht hf hK hp.2 hT hE gi go hQ6 hp6 hb hq eq (fun _ S' u1 => both (hI2.fr u1) (by decide) e_n) (fun x hx => by rw [w0] at hx; cases hx))
    · obtain ⟨x, hx⟩ := bst_some (l := whN K (bsN K T) E i o) (fun y => z (by rw [y]; rfl))
      obtain ⟨b1, b2, b3⟩ := wh_bnd hE hx
      have lt16 := all_lt hE (wh_mem.mp (bst_mem hx)).1
      have hfirst := (r2 x hx).2
      have dr : (if nI (cdN E) < nI q then nI (cdN E) else nI q) = nI (min q x.1) := by
        rw [← b1]
        by_cases y : x.1 < q
        · rw [if_pos (nI_lt y (by omega)), Nat.min_eq_right (by omega)]
        · rw [if_neg (nI_nlt (by omega) (by omega)), Nat.min_eq_left (by omega)]
      rw [dr]
      rintro _ rfl
      refine wl_up3 (fun j y D G => y = nI j ∧ D = va_up C b F ∧ (∀ h, h ≠ s + 7 → G h = N h) ∧ ∀ k, k < 40 → G (s + 7) 3 k = if k < j then (nI (x.2.1 k)).toInt64 else N (s + 7) 3 k) (min q x.1) ?_ (i := 0) (by omega) ⟨rfl, rfl, fun _ _ => rfl, fun k hk => by rw [if_neg (by omega)]⟩
      rintro j y D G KK hj ⟨rfl, rfl, k1, k2⟩ hKK
      refine ⟨fun hc => ?_, fun hc => ?_⟩
      · have := (nI_leI (by omega) (by omega)).mp hc
        obtain rfl : j = min q x.1 := by omega
        refine draw6 hn es hm ms hs ht hf hK hp.2 hT hE gi go hQ6 hp6 hb hq eq (fun w0 => by rw [w0] at hx; cases hx) (fun x2 hx2 S' u1 J' hJ' => ⟨?_, ?_⟩)
        · rw [hx] at hx2
          rw [Option.some.inj hx2]
        · rw [hx] at hx2
          obtain rfl := Option.some.inj hx2
          have hI3 := hI2.fr u1
          obtain ⟨d0, d1, d2, d3, d4, d5⟩ := hI3.2.2.2.2.2.1 s hs
          refine hI3.sheets (fun _ _ => rfl) (fun _ _ _ => rfl) (hI3.2.2.2.2.2.1.one hs (fun _ _ _ => rfl) (fun h hh e => k1 _ (by omega)) (fun _ _ => rfl) (fun _ _ => rfl) (fun h e k hk => by rw [hJ', if_neg (by omega)]) ⟨d0, d1, d2, d3, d4, fun k hk => ?_⟩)
          rw [k2 k hk, hJ']
          by_cases e : k < min q x.1
          · rw [if_pos e, if_pos (by omega), Nat.add_sub_cancel_left]
          · rw [if_neg e, if_neg (by omega)]; exact d5 k hk
      · have hlt : j < min q x.1 := by
          rcases Nat.lt_or_ge j (min q x.1) with h' | h'
          · exact h'
          · exact absurd (nI_le h' (by omega)) hc
        refine ⟨vp_in_nI (by omega) (by decide), ?_⟩
        rw [tn_nI (n := j) (by omega), up_s, hfirst j (by omega)]
        refine put3 (by omega) ?_
        rintro _ rfl _ rfl _ rfl
        rw [va_same, nar_c (lt16 j (by omega))]
        refine hKK _ _ _ hlt ⟨nI_1 j, rfl, fun h hh => by rw [up_o hh]; exact k1 h hh, fun k hk => ?_⟩
        rw [up_s, upL_eq, k2 k hk]
        by_cases e : k = j
        · rw [if_pos ⟨rfl, e⟩, if_pos (by omega), e]
        · rw [if_neg (fun z => e z.2)]
          by_cases e2 : k < j
          · rw [if_pos e2, if_pos (by omega)]
          · rw [if_neg e2, if_neg (by omega)]
end
