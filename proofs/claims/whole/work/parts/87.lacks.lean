/-! lacks -/
section
variable {n : Nat} {w v jm : Nat → Nat} {g : Nat → Option Nat}
def jmU (jm : Nat → Nat) (a b : Nat) (f : Nat) : Nat := if f = a then jm a ||| 2 ^ b else jm f
def hhN (n : Nat) (g : Nat → Option Nat) (w jm : Nat → Nat) (a b : Nat) : Option Nat := if a = b then none else if (jm a).testBit b then none else (bst (LnN n g w (jmU jm a b))).map (fun m => m.2.2)
def ggN (n : Nat) (g : Nat → Option Nat) (w jm : Nat → Nat) (k : Nat) : Option Nat := if k < n * n then hhN n g w jm (k / n) (k % n) else none
def pkG (n : Nat) (x : Option (Nat × Nat)) : Int32 := match x with
  | none => -1
  | some y => nI (10 * (y.1 / n) + y.1 % n)
theorem lns_dy {c : Nat → Nat} : ∀ (d k : Nat) (r : Nat → Nat) (L O : Nat), ∀ m ∈ lns n c w jm d k r L O, m.2.2 = dyN c w m.2.1 (n - 1) := by
  intro d
  induction d with
  | zero => intro k r L O m hm; cases hm
  | succ d ih =>
    intro k r L O m hm
    by_cases e : k = n
    · subst e
      rw [lns_n] at hm
      rw [List.mem_singleton.mp hm]
    · rw [lns_k e] at hm
      obtain ⟨f, hf, hm⟩ := mem_cat hm
      unfold lkd at hm
      split at hm
      · exact ih _ _ _ _ m hm
      · cases hm
theorem LnN_bd (hP : PgOk n g w v jm) {m : Nod} (h : m ∈ LnN n g w jm) : m.2.2 < 10000 := by
  have hn := hP.1
  unfold LnN at h
  by_cases n0 : n = 0
  · rw [if_pos n0] at h; cases h
  · rw [if_neg n0] at h
    by_cases ha : allS g n = true
    · rw [if_pos ha] at h
      have p16 : 2 ^ n - 1 < 65536 := by
        have : 2 ^ n ≤ 2 ^ 6 := Nat.pow_le_pow_right (by decide) hn
        omega
      have ok := lns_ok 8 0 (fun _ => 0) (2 ^ n - 1) (2 ^ n - 1) p16 (fun i hi => absurd hi (by omega)) (fun a b _ hb => absurd hb (by omega)) (fun i hi => absurd hi (by omega)) m h
      rw [lns_dy _ _ _ _ _ m h]
      exact dy_le (hP.pk ha) (by omega) (fun i hi => ok.1 i (by omega))
    · rw [if_neg ha] at h; cases h
theorem PgOk.u (hP : PgOk n g w v jm) {a b : Nat} (ha : a < n) (hb : b < n) : PgOk n g w v (jmU jm a b) := by
  have hn := hP.1
  refine ⟨hn, fun f hf => ?_⟩
  obtain ⟨p1, p2, p3, p4⟩ := hP.2 f hf
  refine ⟨p1, p2, p3, ?_⟩
  unfold jmU
  split
  · exact Nat.or_lt_two_pow (n := 6) (hP.2 a ha).2.2.2 (Nat.pow_lt_pow_right (by decide) (by omega))
  · exact p4
theorem gg_bd (hP : PgOk n g w v jm) (k x : Nat) (h : ggN n g w jm k = some x) : x < 10000 := by
  unfold ggN at h
  by_cases hk : k < n * n
  · rw [if_pos hk] at h
    have np : 0 < n := by
      rcases Nat.eq_zero_or_pos n with z | z
      · rw [z] at hk; exact absurd hk (by omega)
      · exact z
    unfold hhN at h
    split at h
    · cases h
    · split at h
      · cases h
      · cases hb : bst (LnN n g w (jmU jm (k / n) (k % n))) with
        | none => rw [hb] at h; cases h
        | some m =>
          rw [hb] at h
          have := LnN_bd (hP.u (a := k / n) (b := k % n) (Nat.div_lt_of_lt_mul hk) (Nat.mod_lt _ np)) (bst_mem hb)
          have e : m.2.2 = x := Option.some.inj h
          omega
  · rw [if_neg hk] at h; cases h
theorem ix_dm {a b : Nat} (hb : b < n) : (a * n + b) / n = a ∧ (a * n + b) % n = b := by
  have np : 0 < n := by omega
  refine ⟨?_, ?_⟩
  · rw [Nat.add_comm, Nat.add_mul_div_right _ _ np, Nat.div_eq_of_lt hb, Nat.zero_add]
  · rw [Nat.add_comm, Nat.add_mul_mod_self_right, Nat.mod_eq_of_lt hb]
theorem gg_at {a b : Nat} (ha : a < n) (hb : b < n) : ggN n g w jm (a * n + b) = hhN n g w jm a b := by
  unfold ggN
  obtain ⟨e1, e2⟩ := ix_dm (a := a) hb
  have : a * n + b < n * n := by
    have : (a + 1) * n ≤ n * n := Nat.mul_le_mul_right n ha
    rw [Nat.succ_mul] at this
    omega
  rw [if_pos this, e1, e2]
theorem lk_step (hP : PgOk n g w v jm) {a b x : Nat} (ha : a < n) (hb : b < n) (hg : hhN n g w jm a b = some x) {Q : Int32 → Int32 → Prop} (h : Q (pkG n (pkN (ggN n g w jm) (a * n + b + 1))) (pkB (pkN (ggN n g w jm) (a * n + b + 1)))) : ((pkG n (pkN (ggN n g w jm) (a * n + b)) < 0 → Q (nI (10 * a + b)) (nI x)) ∧ (¬ (pkG n (pkN (ggN n g w jm) (a * n + b)) < 0) → ((pkB (pkN (ggN n g w jm) (a * n + b)) ≤ nI x → Q (pkG n (pkN (ggN n g w jm) (a * n + b))) (pkB (pkN (ggN n g w jm) (a * n + b)))) ∧ (¬ (pkB (pkN (ggN n g w jm) (a * n + b)) ≤ nI x) → Q (nI (10 * a + b)) (nI x))))) := by
  have hn := hP.1
  have hgg : ggN n g w jm (a * n + b) = some x := (gg_at ha hb).trans hg
  have hx := gg_bd hP _ _ hgg
  obtain ⟨e1, e2⟩ := ix_dm (a := a) hb
  have code : pkG n (some (a * n + b, x)) = nI (10 * a + b) := by
    show nI (10 * ((a * n + b) / n) + (a * n + b) % n) = _
    rw [e1, e2]
  cases hp : pkN (ggN n g w jm) (a * n + b) with
  | none =>
    rw [pk_new hgg hp, code] at h
    exact br_t (show (-1 : Int32) < 0 by decide) h
  | some y =>
    obtain ⟨y1, y2⟩ := pkn_in hp
    have hy := gg_bd hP _ _ y2
    rw [pk_old hgg hp] at h
    have b1 : y.1 / n < 6 := by
      have : a * n + b < n * n := by
        have : (a + 1) * n ≤ n * n := Nat.mul_le_mul_right n ha
        rw [Nat.succ_mul] at this
        omega
      have : y.1 / n < n := Nat.div_lt_of_lt_mul (by omega)
      omega
    have b2 : y.1 % n < 6 := by
      have := Nat.mod_lt y.1 (show 0 < n by omega)
      omega
    refine br_f (show ¬ nI (10 * (y.1 / n) + y.1 % n) < 0 from nI_pos (by omega)) ?_
    rw [show pkB (some y) ≤ nI x ↔ y.2 ≤ x from nI_leI (by omega) (by omega)]
    refine ⟨fun z => ?_, fun z => ?_⟩
    · rw [if_neg (by omega)] at h; exact h
    · rw [if_pos (by omega), code] at h; exact h
theorem lk_skip {a b : Nat} (ha : a < n) (hb : b < n) (hg : hhN n g w jm a b = none) : pkN (ggN n g w jm) (a * n + b + 1) = pkN (ggN n g w jm) (a * n + b) := pk_no ((gg_at ha hb).trans hg)
theorem or_64 : ∀ j, j < 64 → ∀ t, t < 6 → nI j ||| ((1 : Int32) <<< (nI t &&& 31)) = nI (j ||| 2 ^ t) ∧ (bt (nI j) t = false → (nI (j ||| 2 ^ t)) &&& (((1 : Int32) <<< (nI t &&& 31)) ^^^ (-1)) = nI j) := by decide +kernel
theorem frl_put {S S17 : Bun} {k : Nat} {x x' : Int32} (h : FrL (up S 1 k x) S17) : FrL (up S 1 k x') (up S17 1 k x') := by
  have r1 : S17 1 = up S 1 k x 1 := h.one.1
  refine ⟨fun r a b c d e => ?_, fun j a b c d => ?_⟩
  · by_cases hr : r = 1
    · subst hr
      funext y
      rw [up_eq, up_eq, r1, up_eq]
      by_cases hy : y = k
      · rw [if_pos ⟨rfl, hy⟩, if_pos ⟨rfl, hy⟩]
      · rw [if_neg (fun z => hy z.2), if_neg (fun z => hy z.2), if_neg (fun z => hy z.2)]
    · rw [up_k hr, up_k hr, h.1 r a b c d e, up_k hr]
  · rw [up_k (by decide), up_k (by decide), h.2 j a b c d, up_k (by decide)]
theorem lacks6 {S0 : Bun} {J : Lon} {n m t : Nat} {w v jm : Nat → Nat} {g : Nat → Option Nat} {C : Nat → Bun} {N : Nat → Lon} (hI : InvG FIs C N S0 J) (hn : n ≤ 6) (es : S0 1 0 = nI n) (hm : m ≤ 6) (ms : S0 1 1 = nI m) (ht : t < m) (hP : PgOk n g w v jm) (hG : Gd C S0 n t g w v jm) {post : Int32 → Bun → Prop} (h : ∀ S' S'' : Bun, FrC S0 S' → FrL S' S'' → ((0 ≤ pkG n (pkN (ggN n g w jm) (n * n)) → post (pkG n (pkN (ggN n g w jm) (n * n))) S'') ∧ (¬ (0 ≤ pkG n (pkN (ggN n g w jm) (n * n))) → wX6_finds S'' J (-1000000004) (fun r x => post r x)))) : wX6_lacks S0 J (nI t) post := by
  unfold wX6_lacks
  refine isT6 hm ms (fun _ _ _ => br_f (by decide) ?_) (fun h => absurd rfl (h t ht))
  refine findCosts6 hI hn es (by omega) hG rfl (fun S5 f1 f2 => ?_)
  refine wl_up4 (fun a x y z D => x = pkG n (pkN (ggN n g w jm) (a * n)) ∧ y = pkB (pkN (ggN n g w jm) (a * n)) ∧ z = nI a ∧ FrL S5 D) n ?_ (i := 0) (by omega) ⟨by rw [Nat.zero_mul]; rfl, by rw [Nat.zero_mul]; rfl, rfl, FrL.rfl' S5⟩
  rintro a x y z D KK ha ⟨rfl, rfl, rfl, k1⟩ hKK
  have d0 : D 1 0 = nI n := by rw [k1.one.1]; exact f2.1
  refine ⟨vin0, fun hc => ?_, fun hc => ?_⟩ <;> rw [c0', d0] at hc
  · have := (nI_leI (by omega) (by omega)).mp hc
    obtain rfl : a = n := by omega
    exact h S5 D f1 k1
  · have han : a < n := by
      rcases Nat.lt_or_ge a n with h' | h'
      · exact h'
      · exact absurd (nI_le h' (by omega)) hc
    refine wl_up4 (fun b x y z D => x = pkG n (pkN (ggN n g w jm) (a * n + b)) ∧ y = pkB (pkN (ggN n g w jm) (a * n + b)) ∧ z = nI b ∧ FrL S5 D) n ?_ (i := 0) (by omega) ⟨rfl, rfl, rfl, k1⟩
    rintro b x y z D2 KK2 hb ⟨rfl, rfl, rfl, l1⟩ hKK2
    have d2 : D2 1 0 = nI n := by rw [l1.one.1]; exact f2.1
    refine ⟨vin0, fun hc2 => ?_, fun hc2 => ?_⟩ <;> rw [c0', d2] at hc2
    · have := (nI_leI (by omega) (by omega)).mp hc2
      obtain rfl : b = n := by omega
      rintro _ rfl
      refine hKK _ _ _ _ han ⟨by rw [Nat.succ_mul], by rw [Nat.succ_mul], nI_1 a, l1⟩
    · have hbn : b < n := by
        rcases Nat.lt_or_ge b n with h' | h'
        · exact h'
        · exact absurd (nI_le h' (by omega)) hc2
      have skip : ∀ D3 : Bun, FrL S5 D3 → hhN n g w jm a b = none → ∀ x9 : Int32, x9 = nI b + (1 : Int32) → KK2 (pkG n (pkN (ggN n g w jm) (a * n + b)), pkB (pkN (ggN n g w jm) (a * n + b)), x9, D3) := by
        rintro D3 l3 hh _ rfl
        have e := lk_skip (g := g) (w := w) (jm := jm) han hbn hh
        exact hKK2 _ _ _ _ hbn ⟨by show _ = pkG n (pkN _ (a * n + b + 1)); rw [e], by show _ = pkB (pkN _ (a * n + b + 1)); rw [e], nI_1 b, l3⟩
      rw [show nI a = nI b ↔ a = b from nI_eq (by omega) (by omega)]
      refine ⟨fun e => skip D2 l1 (by unfold hhN; rw [if_pos e]), fun e => ?_⟩
      have va : vp_in (nI (38 + a)) 56 := vp_in_nI (by omega) (by decide)
      have MG2 := f2.fr l1
      have hja := (hP.2 a han).2.2.2
      rw [show (38 : Int32) + nI a = nI (38 + a) from nI_add 38 a, tn_nI (n := 38 + a) (by omega), (MG2.2 a han).2.2.2]
      refine ⟨va, has_b (by omega) (fun q => br_f (by decide) (skip D2 l1 ?_)) (fun q => br_t rfl ⟨va, va, ?_⟩)⟩
      · rw [bt_nI (by omega)] at q
        unfold hhN; rw [if_neg e, if_pos q]
      · have or6 := or_64 (jm a) hja b (by omega)
        rw [or6.1]
        have q' := q
        rw [bt_nI (by omega)] at q
        rintro _ rfl
        have mg : MG n g w v (jmU jm a b) (up D2 1 (38 + a) (nI (jm a ||| 2 ^ b))) := by
          refine ⟨by rw [up_ki (by omega)]; exact MG2.1, fun f hf => ?_⟩
          obtain ⟨a1, a2, a3, a4⟩ := MG2.2 f hf
          refine ⟨by rw [up_k (by decide)]; exact a1, by rw [up_ki (by omega)]; exact a2, by rw [up_ki (by omega)]; exact a3, ?_⟩
          unfold jmU
          by_cases e2 : f = a
          · rw [if_pos e2, e2, up_ss]
          · rw [if_neg e2, up_ki (by omega)]; exact a4
        refine findLines6 (hP.u han hbn) mg (fun S43 u1 u2 => ⟨va, va, ?_⟩)
        have r43 : S43 1 (38 + a) = nI (jm a ||| 2 ^ b) := by rw [u1.one.1, up_ss]
        rw [r43, or6.2 q']
        have l3 : FrL S5 (up S43 1 (38 + a) (nI (jm a))) := by
          have := frl_put (x' := nI (jm a)) u1
          rw [up_same (MG2.2 a han).2.2.2] at this
          exact l1.tr this
        rintro _ rfl
        have s20 : up S43 1 (38 + a) (nI (jm a)) 0 20 = turO (bst (LnN n g w (jmU jm a b))) := by rw [up_k (by decide)]; exact u2.2.2.1
        rw [s20]
        have hh : hhN n g w jm a b = (bst (LnN n g w (jmU jm a b))).map (fun m => m.2.2) := by
          unfold hhN; rw [if_neg e, if_neg (by rw [q]; decide)]
        cases hbs : bst (LnN n g w (jmU jm a b)) with
        | none =>
          rw [hbs] at hh
          exact br_t (show (-1 : Int32) < 0 by decide) (skip _ l3 hh)
        | some mm =>
          rw [hbs] at hh
          have := LnN_bd (hP.u han hbn) (bst_mem hbs)
          refine br_f (show ¬ nI mm.2.2 < 0 from nI_pos (by omega)) (wj ?_)
          rw [show (10 : Int32) * nI a + nI b = nI (10 * a + b) by rw [fa_lit 10, pk_mul, nI_add]]
          have st := lk_step hP han hbn hh (Q := fun p q => ∀ x : Int32, x = nI b + (1 : Int32) → KK2 (p, q, x, up S43 1 (38 + a) (nI (jm a)))) (by
            rintro _ rfl
            exact hKK2 _ _ _ _ hbn ⟨rfl, rfl, nI_1 b, l3⟩)
          refine ⟨fun z => ?_, fun z => ⟨fun z2 => (st.2 z).1 z2, fun z2 => ?_⟩⟩
          · rintro _ rfl _ rfl
            exact st.1 z
          · rintro _ rfl _ rfl
            exact (st.2 z).2 z2
theorem lo_lacks_ok : lo_lacks (InvG FIs) := by
  intro C N S J a1 hI
  obtain ⟨n, hn, en⟩ := hI.1.1.1
  have es : S 1 0 = nI n := hI.1.2.1.trans en
  obtain ⟨m, hm, em⟩ := hI.1.1.2.1
  have ms : S 1 1 = nI m := hI.1.2.2.1.trans em
  unfold wX5_lacks
  refine hasT5 hm em (fun t ht et => br_f (by decide) ?_) (fun h1 => br_t rfl (find5 (k := 0) (by decide) ?_))
  · subst et
    obtain ⟨g, w, v, jm, hP, hG⟩ := Gd_of (n := n) hI hn hm em ht
    refine goThrough5 (m := m) hI hn en (by omega) hP hG (fun C5 i1 i2 i3 i4 => ?_)
    have hjC : ∀ f, f < n → C 1 4 f = nI (jm f) := fun f hf => (hG f hf).2.2.2
    refine wl_up4 (fun a x y z D => x = pkB (pkN (ggN n g w jm) (a * n)) ∧ y = pkG n (pkN (ggN n g w jm) (a * n)) ∧ z = nI a ∧ InvG FIs D N S J ∧ D 1 = C 1 ∧ CG n g w v jm (D 5)) n ?_ (i := 0) (by omega) ⟨by rw [Nat.zero_mul]; rfl, by rw [Nat.zero_mul]; rfl, rfl, i1, i2, i3⟩
    rintro a x y z D KK ha ⟨rfl, rfl, rfl, k1, k2, k3⟩ hKK
    refine ⟨fun hc => ?_, fun hc => ?_⟩ <;> rw [k2, en] at hc
    · have := (nI_leI (by omega) (by omega)).mp hc
      obtain rfl : a = n := by omega
      refine ⟨fun q => lacks6 hI hn es hm ms ht hP hG (fun S' S'' u1 u2 => br_t q ⟨rfl, (k1.frc u1).frl u2⟩), fun q => find5 (k := 3) (by decide) (lacks6 hI hn es hm ms ht hP hG (fun S' S'' u1 u2 => br_f q (both ((k1.frc u1).frl u2) (by decide) e_n)))⟩
    · have han : a < n := by
        rcases Nat.lt_or_ge a n with h' | h'
        · exact h'
        · exact absurd (nI_le h' (by omega)) hc
      refine wl_up4 (fun b x y z D => x = pkB (pkN (ggN n g w jm) (a * n + b)) ∧ y = pkG n (pkN (ggN n g w jm) (a * n + b)) ∧ z = nI b ∧ InvG FIs D N S J ∧ D 1 = C 1 ∧ CG n g w v jm (D 5)) n ?_ (i := 0) (by omega) ⟨rfl, rfl, rfl, k1, k2, k3⟩
      rintro b x y z D2 KK2 hb ⟨rfl, rfl, rfl, l1, l2, l3⟩ hKK2
      refine ⟨fun hc2 => ?_, fun hc2 => ?_⟩ <;> rw [l2, en] at hc2
      · have := (nI_leI (by omega) (by omega)).mp hc2
        obtain rfl : b = n := by omega
        rintro _ rfl
        refine hKK _ _ _ _ han ⟨by rw [Nat.succ_mul], by rw [Nat.succ_mul], nI_1 a, l1, l2, l3⟩
      · have hbn : b < n := by
          rcases Nat.lt_or_ge b n with h' | h'
          · exact h'
          · exact absurd (nI_le h' (by omega)) hc2
        have skip : ∀ D3 : Nat → Bun, InvG FIs D3 N S J → D3 1 = C 1 → CG n g w v jm (D3 5) → hhN n g w jm a b = none → ∀ x9 : Int32, x9 = nI b + (1 : Int32) → KK2 (pkB (pkN (ggN n g w jm) (a * n + b)), pkG n (pkN (ggN n g w jm) (a * n + b)), x9, D3) := by
          rintro D3 t1 t2 t3 hh _ rfl
          have e := lk_skip (g := g) (w := w) (jm := jm) han hbn hh
          exact hKK2 _ _ _ _ hbn ⟨by show _ = pkB (pkN _ (a * n + b + 1)); rw [e], by show _ = pkG n (pkN _ (a * n + b + 1)); rw [e], nI_1 b, t1, t2, t3⟩
        rw [show nI a = nI b ↔ a = b from nI_eq (by omega) (by omega)]
        refine ⟨fun e => skip D2 l1 l2 l3 (by unfold hhN; rw [if_pos e]), fun e => ?_⟩
        have va : vp_in (nI a) 6 := vp_in_nI (by omega) (by decide)
        have hja := (hP.2 a han).2.2.2
        rw [tn_nI (n := a) (by omega), l2, hjC a han]
        refine ⟨va, holds_b (by omega) (fun q => br_f (by decide) (skip D2 l1 l2 l3 ?_)) (fun q => br_t rfl ⟨va, va, ?_⟩)⟩
        · rw [bt_nI (by omega)] at q
          unfold hhN; rw [if_neg e, if_pos q]
        · have or6 := or_64 (jm a) hja b (by omega)
          rw [(l3.2 a han).2.2.2, or6.1]
          rw [bt_nI (by omega)] at q
          rintro _ rfl
          rw [up_s]
          have cg : CG n g w v (jmU jm a b) (up (D2 5) 5 a (nI (jm a ||| 2 ^ b))) := by
            refine ⟨by rw [up_k (by decide)]; exact l3.1, fun f hf => ?_⟩
            obtain ⟨a1, a2, a3, a4⟩ := l3.2 f hf
            refine ⟨by rw [up_k (by decide)]; exact a1, by rw [up_k (by decide)]; exact a2, by rw [up_k (by decide)]; exact a3, ?_⟩
            unfold jmU
            by_cases e2 : f = a
            · rw [if_pos e2, e2, up_ss]
            · rw [if_neg e2, up_ki e2]; exact a4
          refine search5 (hP.u han hbn) cg (fun S42 u1 u2 => ?_)
          rintro _ rfl
          refine ⟨va, va, ?_⟩
          simp only [va_twice, up_s]
          rw [up_o (by decide), l2, hjC a han]
          rintro _ rfl
          have t1 := l1.rows (up S42 5 a (nI (jm a)))
          have t2 : va_up D2 5 (up S42 5 a (nI (jm a))) 1 = C 1 := by rw [up_o (by decide)]; exact l2
          have t3 : CG n g w v jm (va_up D2 5 (up S42 5 a (nI (jm a))) 5) := by
            rw [up_s]
            refine ⟨by rw [up_k (by decide)]; exact u1.1, fun f hf => ?_⟩
            obtain ⟨a1, a2, a3, a4⟩ := u1.2 f hf
            refine ⟨by rw [up_k (by decide)]; exact a1, by rw [up_k (by decide)]; exact a2, by rw [up_k (by decide)]; exact a3, ?_⟩
            by_cases e2 : f = a
            · rw [e2, up_ss]
            · rw [up_ki e2, a4]
              unfold jmU; rw [if_neg e2]
          have hlen := LnN_len (g := g) (w := w) (jm := jmU jm a b) hn
          have s05 : va_up D2 5 (up S42 5 a (nI (jm a))) 5 0 5 = nI (LnN n g w (jmU jm a b)).length := by rw [up_s, up_k (by decide)]; exact u2.2.1
          have hh : hhN n g w jm a b = (bst (LnN n g w (jmU jm a b))).map (fun m => m.2.2) := by
            unfold hhN; rw [if_neg e, if_neg (by rw [q]; decide)]
          rw [s05]
          refine ⟨fun z => skip _ t1 t2 t3 ?_, fun z => wj ?_⟩
          · have : (LnN n g w (jmU jm a b)).length ≤ 0 := (nI_leI (b := 0) hlen (by decide)).mp z
            have l0 : LnN n g w (jmU jm a b) = [] := List.length_eq_zero_iff.mp (by omega)
            rw [hh, l0]; rfl
          · obtain ⟨mm, hbs⟩ := bst_some (l := LnN n g w (jmU jm a b)) (fun y => z (by rw [y]; decide))
            have s07 : va_up D2 5 (up S42 5 a (nI (jm a))) 5 0 7 = nI mm.2.2 := by rw [up_s, up_k (by decide)]; exact (u2.2.2.1 mm hbs).1
            rw [hbs] at hh
            rw [s07, show (10 : Int32) * nI a + nI b = nI (10 * a + b) by rw [fa_lit 10, pk_mul, nI_add]]
            have st := lk_step hP han hbn hh (Q := fun p q => ∀ x : Int32, x = nI b + (1 : Int32) → KK2 (q, p, x, va_up D2 5 (up S42 5 a (nI (jm a))))) (by
              rintro _ rfl
              exact hKK2 _ _ _ _ hbn ⟨rfl, rfl, nI_1 b, t1, t2, t3⟩)
            refine ⟨fun z => ?_, fun z => ⟨fun z2 => (st.2 z).1 z2, fun z2 => ?_⟩⟩
            · rintro _ rfl _ rfl
              exact st.1 z
            · rintro _ rfl _ rfl
              exact (st.2 z).2 z2
  · unfold wX6_lacks
    exact isT6 hm ms (fun t ht e => absurd e (h1 t ht)) (fun _ => br_t rfl (both hI (by decide) e_b))
end
