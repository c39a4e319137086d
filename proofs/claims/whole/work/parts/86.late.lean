/-! lines, yields, late, done -/
section
variable {n : Nat} {w v jm : Nat → Nat} {g : Nat → Option Nat} {C : Nat → Bun} {N : Nat → Lon} {S : Bun} {J : Lon} {FI : Bun → Prop}
theorem thru6 {t : Nat} (hI : InvG FI C N S J) (hn : n ≤ 6) (es : S 1 0 = nI n) (ht : t < 6) (hP : PgOk n g w v jm) (hG : Gd C S n t g w v jm) {post : Bun → Prop} (h : ∀ S' S'' : Bun, FrC S S' → FrL S' S'' → RLn n (cO g) w v (LnN n g w jm) S'' → post S'') : wX6_findCosts S J (nI t) (fun S5 => wX6_findLines S5 J (fun S9 => post S9)) :=
  findCosts6 hI hn es ht hG rfl (fun S' u1 u2 => findLines6 hP u2 (fun S'' u3 u4 => h S' S'' u1 u3 u4))
theorem lns_ok {c : Nat → Nat} : ∀ (d k : Nat) (r : Nat → Nat) (L O : Nat), L < 65536 → (∀ i, i < k → r i < n) → (∀ a b, a < b → b < k → r a ≠ r b) → (∀ i, i < k → L.testBit (r i) = false) → ∀ m ∈ lns n c w jm d k r L O, (∀ i, i < n → m.2.1 i < n) ∧ ∀ a b, a < b → b < n → m.2.1 a ≠ m.2.1 b := by
  intro d
  induction d with
  | zero => intro k r L O _ _ _ _ m hm; cases hm
  | succ d ih =>
    intro k r L O hL h1 h2 h3 m hm
    by_cases e : k = n
    · subst e
      rw [lns_n] at hm
      rw [List.mem_singleton.mp hm]
      exact ⟨h1, h2⟩
    · rw [lns_k e] at hm
      obtain ⟨f, hf, hm⟩ := mem_cat hm
      unfold lkd at hm
      by_cases hb : (L.testBit f && O.testBit f) = true
      · rw [if_pos hb] at hm
        have hbL : L.testBit f = true := (Bool.and_eq_true _ _ ▸ hb).1
        refine ih (k + 1) (ext r k f) (delN L f) (jm f) (del_lt hL) (fun i hi => ?_) (fun a b hab hb => ?_) (fun i hi => ?_) m hm
        · by_cases e2 : i = k
          · rw [e2, ext_n]; exact hf
          · rw [ext_o e2]; exact h1 i (by omega)
        · by_cases e2 : b = k
          · rw [e2, ext_n, ext_o (by omega)]
            intro z
            have := h3 a (by omega)
            rw [z, hbL] at this
            exact absurd this (by decide)
          · rw [ext_o e2, ext_o (by omega)]; exact h2 a b hab (by omega)
        · rw [del_bit hL]
          by_cases e2 : i = k
          · rw [e2, ext_n, if_pos rfl]
          · rw [ext_o e2]
            split
            · rfl
            · exact h3 i (by omega)
      · rw [if_neg hb] at hm; cases hm
theorem LnN_onto (hn : n ≤ 6) {m : Nod} (h : m ∈ LnN n g w jm) {f : Nat} (hf : f < n) : ∃ k, k < n ∧ m.2.1 k = f := by
  unfold LnN at h
  by_cases n0 : n = 0
  · omega
  · rw [if_neg n0] at h
    by_cases ha : allS g n = true
    · rw [if_pos ha] at h
      have p16 : 2 ^ n - 1 < 65536 := by
        have : 2 ^ n ≤ 2 ^ 6 := Nat.pow_le_pow_right (by decide) hn
        omega
      have := lns_ok 8 0 (fun _ => 0) (2 ^ n - 1) (2 ^ n - 1) p16 (fun i hi => absurd hi (by omega)) (fun a b _ hb => absurd hb (by omega)) (fun i hi => absurd hi (by omega)) m h
      exact fb_onto this.1 this.2 hf
    · rw [if_neg ha] at h; cases h
theorem bst_none {l : List Nod} (h : bst l = none) : l = [] := by
  cases l with
  | nil => rfl
  | cons a l =>
    obtain ⟨z, hz⟩ := bst_some (l := a :: l) (List.cons_ne_nil _ _)
    rw [hz] at h; cases h
theorem lo_lines_ok : lo_lines (InvG FIs) := by
  intro C N S J a1 hI
  obtain ⟨n, hn, en⟩ := hI.1.1.1
  have es : S 1 0 = nI n := hI.1.2.1.trans en
  obtain ⟨m, hm, em⟩ := hI.1.1.2.1
  have ms : S 1 1 = nI m := hI.1.2.2.1.trans em
  unfold wX5_lines
  refine hasT5 hm em (fun t ht et => br_f (by decide) ?_) (fun h1 => br_t rfl (find5 (k := 0) (by decide) ?_))
  · subst et
    obtain ⟨g, w, v, jm, hP, hG⟩ := Gd_of (n := n) hI hn hm em ht
    refine goThrough5 (m := m) hI hn en (by omega) hP hG (fun C' k1 k2 k3 k4 => ?_)
    rw [k4.2.1]
    unfold wX6_lines
    refine isT6 hm ms (fun _ _ _ => br_f (by decide) ?_) (fun h => absurd rfl (h t ht))
    exact thru6 (post := fun S9 => nI (LnN n g w jm).length = S9 0 19 ∧ InvG FIs C' N S9 J) hI hn es (by omega) hP hG (fun S' S'' u1 u2 u3 => ⟨u3.2.1.symm, (k1.frc u1).frl u2⟩)
  · unfold wX6_lines
    exact isT6 hm ms (fun t ht e => absurd e (h1 t ht)) (fun _ => br_t rfl (both hI (by decide) e_b))
theorem lo_yields_ok : lo_yields (InvG FIs) := by
  intro C N S J a1 hI
  obtain ⟨n, hn, en⟩ := hI.1.1.1
  have es : S 1 0 = nI n := hI.1.2.1.trans en
  obtain ⟨m, hm, em⟩ := hI.1.1.2.1
  have ms : S 1 1 = nI m := hI.1.2.2.1.trans em
  unfold wX5_yields
  refine hasT5 hm em (fun t ht et => br_f (by decide) ?_) (fun h1 => br_t rfl (find5 (k := 0) (by decide) ?_))
  · subst et
    obtain ⟨g, w, v, jm, hP, hG⟩ := Gd_of (n := n) hI hn hm em ht
    have hlen := LnN_len (g := g) (w := w) (jm := jm) hn
    have z0 : nI (LnN n g w jm).length = 0 ↔ LnN n g w jm = [] := by
      rw [show nI (LnN n g w jm).length = 0 ↔ (LnN n g w jm).length = 0 from nI_eq (b := 0) hlen (by decide)]
      exact List.length_eq_zero_iff
    refine goThrough5 (m := m) hI hn en (by omega) hP hG (fun C' k1 k2 k3 k4 => ?_)
    have m6 : ∀ {post : Int32 → Bun → Prop}, (∀ S' S'' : Bun, FrC S S' → FrL S' S'' → RLn n (cO g) w v (LnN n g w jm) S'' → ((LnN n g w jm = [] → wX6_finds S'' J (-1000000004) (fun r x => post r x)) ∧ (LnN n g w jm ≠ [] → post (S'' 0 22) S''))) → wX6_yields S J (nI t) post := by
      intro post hpost
      unfold wX6_yields
      refine isT6 hm ms (fun _ _ _ => br_f (by decide) ?_) (fun h => absurd rfl (h t ht))
      refine thru6 (post := fun S9 => (((S9 0 19) = 0 → wX6_finds S9 J (-1000000004) (fun r11 S13 => post r11 S13)) ∧ (¬ ((S9 0 19) = 0) → post (S9 0 22) S9))) hI hn es (by omega) hP hG (fun S' S'' u1 u2 u3 => ?_)
      rw [u3.2.1, z0]
      exact hpost S' S'' u1 u2 u3
    rw [k4.2.1, z0]
    refine ⟨fun z => find5 (k := 3) (by decide) (m6 (fun S' S'' u1 u2 u3 => ⟨fun _ => both ((k1.frc u1).frl u2) (by decide) e_n, fun y => absurd z y⟩)), fun z => m6 (fun S' S'' u1 u2 u3 => ⟨fun y => absurd y z, fun _ => ⟨?_, (k1.frc u1).frl u2⟩⟩)⟩
    rw [k4.2.2.2 z, u3.2.2.2.2, mxO_ne z]
  · unfold wX6_yields
    exact isT6 hm ms (fun t ht e => absurd e (h1 t ht)) (fun _ => br_t rfl (both hI (by decide) e_b))
theorem lo_done_ok : lo_done (InvG FIs) := by
  intro C N S J a1 a2 hI
  obtain ⟨n, hn, en⟩ := hI.1.1.1
  have es : S 1 0 = nI n := hI.1.2.1.trans en
  obtain ⟨m, hm, em⟩ := hI.1.1.2.1
  have ms : S 1 1 = nI m := hI.1.2.2.1.trans em
  have hbad : (¬ ∃ t f : Nat, t < m ∧ f < n ∧ a1 = nI t ∧ a2 = nI f) → wX5_finding C N 0 (fun r C1 => wX6_done S J a1 a2 (fun r1 S1 => r = r1 ∧ InvG FIs C1 N S1 J)) := by
    intro hb
    refine find5 (k := 0) (by decide) ?_
    unfold wX6_done
    have no := both (N := N) hI (k := 0) (by decide) e_b
    refine isT6 hm ms (fun t ht et => wj (br_f (by decide) ?_)) (fun _ => wj (br_t rfl no))
    exact isF6' hn es (fun f hf ef => absurd ⟨t, f, ht, hf, et, ef⟩ hb) (fun _ => br_t rfl no)
  unfold wX5_done
  refine hasT5 hm em (fun t ht et => wj (br_f (by decide) ?_)) (fun h1 => wj (br_t rfl (hbad (fun ⟨t, _, ht, _, e, _⟩ => h1 t ht e))))
  refine hasF5 hn en (fun f hf ef => br_f (by decide) ?_) (fun h1 => br_t rfl (hbad (fun ⟨_, f, _, hf, _, e⟩ => h1 f hf e)))
  subst et ef
  obtain ⟨g, w, v, jm, hP, hG⟩ := Gd_of (n := n) hI hn hm em ht
  have hlen := LnN_len (g := g) (w := w) (jm := jm) hn
  have z0 : nI (LnN n g w jm).length = 0 ↔ LnN n g w jm = [] := by
    rw [show nI (LnN n g w jm).length = 0 ↔ (LnN n g w jm).length = 0 from nI_eq (b := 0) hlen (by decide)]
    exact List.length_eq_zero_iff
  have vf : vp_in (nI f) 6 := vp_in_nI (by omega) (by decide)
  refine goThrough5 (m := m) hI hn en (by omega) hP hG (fun C' k1 k2 k3 k4 => ?_)
  have m6 : ∀ {post : Int32 → Bun → Prop}, (∀ S' S'' : Bun, FrC S S' → FrL S' S'' → RLn n (cO g) w v (LnN n g w jm) S'' → ((LnN n g w jm = [] → wX6_finds S'' J (-1000000004) (fun r x => post r x)) ∧ (LnN n g w jm ≠ [] → post (S'' 19 f) S''))) → wX6_done S J (nI t) (nI f) post := by
    intro post hpost
    unfold wX6_done
    refine isT6 hm ms (fun _ _ _ => wj (br_f (by decide) ?_)) (fun h => absurd rfl (h t ht))
    refine isF6' hn es (fun _ _ _ => br_f (by decide) ?_) (fun h => absurd rfl (h f hf))
    refine thru6 (post := fun S18 => ((0 ≤ (S18 0 20) → vp_in (nI f) 6 ∧ post (S18 19 (nI f).toNatClampNeg) S18) ∧ (¬ (0 ≤ (S18 0 20)) → wX6_finds S18 J (-1000000004) (fun r20 S22 => post r20 S22)))) hI hn es (by omega) hP hG (fun S' S'' u1 u2 u3 => ?_)
    obtain ⟨p1, p2⟩ := hpost S' S'' u1 u2 u3
    rw [u3.2.2.1, tn_nI (n := f) (by omega)]
    cases hb : bst (LnN n g w jm) with
    | none => exact br_f (show ¬ (0 : Int32) ≤ -1 by decide) (p1 (bst_none hb))
    | some x =>
      have := (u3.1 x (bst_mem hb)).1
      exact br_t (show (0 : Int32) ≤ nI x.2.2 from nI_pos' (by omega)) ⟨vf, p2 (fun z => by rw [z] at hb; cases hb)⟩
  rw [k4.2.1, z0, tn_nI (n := f) (by omega)]
  refine ⟨fun z => find5 (k := 3) (by decide) (m6 (fun S' S'' u1 u2 u3 => ⟨fun _ => both ((k1.frc u1).frl u2) (by decide) e_n, fun y => absurd z y⟩)), fun z => ⟨vf, m6 (fun S' S'' u1 u2 u3 => ⟨fun y => absurd y z, fun _ => ⟨?_, (k1.frc u1).frl u2⟩⟩)⟩⟩
  obtain ⟨x, hx⟩ := bst_some z
  obtain ⟨k, hk, e⟩ := LnN_onto hn (bst_mem hx) hf
  have a := (k4.2.2.1 x hx).2.2.2 k hk
  have b := (u3.2.2.2.1 x hx).2.2 k hk
  rw [e] at a b
  rw [a, b]
theorem in_5 {x : Int32} {post : Int32 → Prop} (h1 : -2 ≤ x.toInt → x.toInt ≤ 5 → post 1) (h0 : ¬ (-2 ≤ x.toInt ∧ x.toInt ≤ 5) → post 0) : wX6_in x.toInt64 (-2 : Int64) (5 : Int64) post := by
  have el : (-2 : Int64).toInt = -2 := by decide
  have eh : (5 : Int64).toInt = 5 := by decide
  refine in_i (fun p q => ?_) (fun z => ?_)
  · rw [el] at p; rw [eh] at q; exact h1 p q
  · rw [el, eh] at z; exact h0 z
theorem lo_late_ok : lo_late (InvG FIs) := by
  intro C N S J a1 a2 hI
  obtain ⟨n, hn, en⟩ := hI.1.1.1
  have es : S 1 0 = nI n := hI.1.2.1.trans en
  obtain ⟨m, hm, em⟩ := hI.1.1.2.1
  have ms : S 1 1 = nI m := hI.1.2.2.1.trans em
  have hbad : (¬ ∃ t : Nat, t < m ∧ (-2 ≤ a2.toInt ∧ a2.toInt ≤ 5) ∧ a1 = nI t) → wX5_finding C N 0 (fun r C1 => wX6_late S J a1 a2 (fun r1 S1 => r = r1 ∧ InvG FIs C1 N S1 J)) := by
    intro hb
    refine find5 (k := 0) (by decide) ?_
    unfold wX6_late
    have no := both (N := N) hI (k := 0) (by decide) e_b
    refine isT6 hm ms (fun t ht et => wj (br_f (by decide) ?_)) (fun _ => wj (br_t rfl no))
    exact in_5 (fun p q => absurd ⟨t, ht, ⟨p, q⟩, et⟩ hb) (fun _ => br_t rfl no)
  have em2 : (-2 : Int32).toInt = -2 := rfl
  have em1 : (-1 : Int32).toInt = -1 := rfl
  have e6 : (6 : Int32).toInt = 6 := rfl
  unfold wX5_late
  refine hasT5 hm em (fun t ht et => wj (br_f (by decide) ?_)) (fun h1 => wj (br_t rfl (hbad (fun ⟨t, ht, _, e⟩ => h1 t ht e))))
  refine ⟨fun z => hbad (fun ⟨_, _, q, _⟩ => by rw [fa_lt, em2] at z; omega), fun z => ⟨fun z2 => ?_, fun z2 => hbad (fun ⟨_, _, q, _⟩ => by rw [fa_lt, e6] at z2; omega)⟩⟩
  rw [fa_lt, em2] at z
  rw [fa_lt, e6] at z2
  subst et
  obtain ⟨g, w, v, jm, hP, hG⟩ := Gd_of (n := n) hI hn hm em ht
  have hlen := LnN_len (g := g) (w := w) (jm := jm) hn
  have z0 : nI (LnN n g w jm).length = 0 ↔ LnN n g w jm = [] := by
    rw [show nI (LnN n g w jm).length = 0 ↔ (LnN n g w jm).length = 0 from nI_eq (b := 0) hlen (by decide)]
    exact List.length_eq_zero_iff
  refine goThrough5 (m := m) hI hn en (by omega) hP hG (fun C' k1 k2 k3 k4 => ?_)
  have m6 : ∀ {post : Int32 → Bun → Prop}, (∀ S' S'' : Bun, FrC S S' → FrL S' S'' → RLn n (cO g) w v (LnN n g w jm) S'' → (((LnN n g w jm = [] ∨ ¬ a2 < nI n) → wX6_finds S'' J (-1000000004) (fun r x => post r x)) ∧ (LnN n g w jm ≠ [] → a2 < nI n → ((a2 = (-1 : Int32) → post (S'' 0 20) S'') ∧ (¬ (a2 = (-1 : Int32)) → ((a2 = (-2 : Int32) → post (S'' 0 21) S'') ∧ (¬ (a2 = (-2 : Int32)) → vp_in a2 6 ∧ post (S'' 18 a2.toNatClampNeg) S'')))))) ) → wX6_late S J (nI t) a2 post := by
    intro post hpost
    unfold wX6_late
    refine isT6 hm ms (fun _ _ _ => wj (br_f (by decide) ?_)) (fun h => absurd rfl (h t ht))
    refine in_5 (fun _ _ => br_f (by decide) ?_) (fun q => absurd ⟨by omega, by omega⟩ q)
    refine thru6 (post := fun S18 => wjoin (σ := Unit) (fun _ => wX6_finds S18 J (-1000000004) (fun r23 S25 => post r23 S25)) (fun J20 => (((S18 0 20) < 0 → J20 ()) ∧ (¬ ((S18 0 20) < 0) → vp_in (0 : Int32) 56 ∧ ((a2 < (S18 1 (0 : Int32).toNatClampNeg) → ((a2 = (-1 : Int32) → post (S18 0 20) S18) ∧ (¬ (a2 = (-1 : Int32)) → ((a2 = (-2 : Int32) → post (S18 0 21) S18) ∧ (¬ (a2 = (-2 : Int32)) → vp_in a2 6 ∧ post (S18 18 a2.toNatClampNeg) S18))))) ∧ (¬ (a2 < (S18 1 (0 : Int32).toNatClampNeg)) → J20 ())))))) hI hn es (by omega) hP hG (fun S' S'' u1 u2 u3 => ?_)
    obtain ⟨p1, p2⟩ := hpost S' S'' u1 u2 u3
    have s10 : S'' 1 (0 : Int32).toNatClampNeg = nI n := by rw [c0', u2.one.1, u1.one]; exact es
    refine wj ⟨fun y => p1 (Or.inl ?_), fun y => ⟨vin0, fun y2 => p2 ?_ (by rw [s10] at y2; exact y2), fun y2 => p1 (Or.inr (by rw [s10] at y2; exact y2))⟩⟩
    · rw [u3.2.2.1] at y
      cases hb : bst (LnN n g w jm) with
      | none => exact bst_none hb
      | some x =>
        rw [hb] at y
        have := (u3.1 x (bst_mem hb)).1
        exact absurd y (show ¬ nI x.2.2 < 0 from nI_pos (by omega))
    · intro q
      rw [u3.2.2.1, q] at y
      exact y (show (-1 : Int32) < 0 by decide)
  have noneC : (LnN n g w jm = [] ∨ ¬ a2 < nI n) → wX5_finding C' N (3 : Int32) (fun r C1 => wX6_late S J (nI t) a2 (fun r1 S1 => r = r1 ∧ InvG FIs C1 N S1 J)) := fun q => find5 (k := 3) (by decide) (m6 (fun S' S'' u1 u2 u3 => ⟨fun _ => both ((k1.frc u1).frl u2) (by decide) e_n, fun y1 y2 => by
    rcases q with q | q
    · exact absurd q y1
    · exact absurd y2 q⟩))
  rw [k4.2.1, z0, k2, en]
  refine wj ⟨fun y => noneC (Or.inl y), fun y => ⟨fun y2 => ?_, fun y2 => noneC (Or.inr y2)⟩⟩
  obtain ⟨x, hx⟩ := bst_some y
  obtain ⟨c7, c8, c10, c11⟩ := k4.2.2.1 x hx
  refine ⟨fun q => ?_, fun q => ⟨fun q2 => ?_, fun q2 => ?_⟩⟩
  · refine m6 (fun S' S'' u1 u2 u3 => ⟨fun r => r.elim (fun r => absurd r y) (fun r => absurd y2 r), fun _ _ => br_t q ⟨?_, (k1.frc u1).frl u2⟩⟩)
    rw [c7, u3.2.2.1, hx]; rfl
  · refine m6 (fun S' S'' u1 u2 u3 => ⟨fun r => r.elim (fun r => absurd r y) (fun r => absurd y2 r), fun _ _ => br_f q (br_t q2 ⟨?_, (k1.frc u1).frl u2⟩)⟩)
    rw [c8, (u3.2.2.2.1 x hx).1]
  · have q' := q
    have q2' := q2
    rw [fa_eq, em1] at q'
    rw [fa_eq, em2] at q2'
    obtain ⟨k, hk, ek⟩ := of_toInt (x := a2) (n := 6) (by omega) (by omega) (by decide)
    have vk : vp_in a2 6 := by rw [ek]; exact vp_in_nI hk (by decide)
    refine ⟨vk, m6 (fun S' S'' u1 u2 u3 => ⟨fun r => r.elim (fun r => absurd r y) (fun r => absurd y2 r), fun _ _ => br_f q (br_f q2 ⟨vk, ?_, (k1.frc u1).frl u2⟩)⟩)⟩
    rw [ek] at y2
    have hkn : k < n := (nI_ltI (by omega) (by omega)).mp y2
    rw [ek, tn_nI (n := k) (by omega), c10 k hkn, (u3.2.2.2.1 x hx).2.1 k hkn]
end
