/-! read, both sides -/
section
variable {FI : Bun → Prop} {C : Nat → Bun} {N : Nat → Lon} {S : Bun} {J : Lon}
theorem lookAt5 {n m : Nat} (hI : InvG FI C N S J) (hn : n ≤ 6) (en : C 1 0 0 = nI n) (hm : m ≤ 6) (em : C 1 0 1 = nI m) {a1 a2 a3 : Int32} {post : Int32 → Prop} (h0 : (∀ h : Nat, h < 4 → a1 ≠ nI h) → post 0) (h5 : ∀ h : Nat, h < 4 → a1 = nI h → S 30 h = 0 → post 5) (hb : ∀ h : Nat, h < 4 → a1 = nI h → S 30 h ≠ 0 → (¬ ∃ t f : Nat, t < m ∧ f < n ∧ a2 = nI t ∧ a3 = nI f) → post 0) (h1 : ∀ h t f : Nat, h < 4 → t < m → f < n → a1 = nI h → S 30 h ≠ 0 → a2 = nI t → a3 = nI f → post (-1)) : wX5_lookAt C N a1 a2 a3 post := by
  unfold wX5_lookAt
  refine isSheet5 (fun h hh eh => br_f (by decide) ?_) (fun hno => br_t rfl (h0 hno))
  subst eh
  obtain ⟨c0, c1, ⟨p, hp, ep⟩, ok, z0, cN⟩ := hI.2.2.2.2.2.1 h hh
  rw [tn_nI (by omega), c0]
  refine ⟨vp_in_nI hh (by decide), fun z => h5 h hh rfl z, fun z => ?_⟩
  refine hasT5 hm em (fun t ht et => br_f (by decide) ?_) (fun hno => br_t rfl (hb h hh rfl z (fun ⟨t, _, ht, _, e, _⟩ => hno t ht e)))
  exact hasF5 hn en (fun f hf ef => br_f (by decide) (h1 h t f hh ht hf rfl z et ef)) (fun hno => br_t rfl (hb h hh rfl z (fun ⟨_, f, _, hf, _, e⟩ => hno f hf e)))
theorem read5 {s t f p K T E : Nat} {i o : Option Nat} (hs : s < 4) (ht : t < 6) (hf : f < 6) (hK : K < 6) (hT : T < 65536) (hE : E < 65536) (gi : gOk i) (go : gOk o) (ek : C 1 5 t = nI K) (eT : C 1 3 (6 * f + 1) = nI T) (eE : earthOf (C 1 3 (6 * f)) (C 1 3 (6 * f + 1)) = nI E) (ei : C 1 3 (6 * f + 2) = gI i) (eo : C 1 3 (6 * f + 3) = gI o) (hp : p ≤ 40) (ep : C (s + 7) 0 1 = nI p) {g : Nat → Int64} (eg : ∀ k, k < 40 → N (s + 7) 3 k = g k) {post : Int32 → (Nat → Bun) → Prop} (h : post (rdN g K T i o p 0 E none none false) C) (hl : ∀ q : (Int32 → Prop), q (-1) → wX5_lookAt C N (nI s) (nI t) (nI f) q) : wX5_read C N (nI s) (nI t) (nI f) post := by
  unfold wX5_read
  refine hl _ (br_t (by decide) ⟨vp_in_nI hs (by decide), earth5 hf (mark5 (w := 2) hf (by decide) (mark5 (w := 1) hf (by decide) (cellsBeside5 ?_)))⟩)
  rw [eE, ei, eT, (cbN_ok T).1, tn_nI (n := s) (by omega), tn_nI (n := t) (by omega), ep, ek]
  intro P hP
  have core : ∀ (r k L : Nat) (c b : Option Nat) (tt : Bool), k + r = p → L < 65536 → (k = 0 → c = none) → (0 < k → c ≠ none) → gOk c → (c = none → b = none ∧ tt = false) → dOk b → post (rdN g K T i o r k L c b tt) C → P (nI L, gI c, gI b, bI tt, nI k) := by
    intro r
    induction r with
    | zero =>
      intro k L c b tt hk hL c0 c1 gc cb hb hpost
      obtain rfl : k = p := by omega
      rw [rd_0] at hpost
      refine hP _ ⟨fun _ => mark5 (w := 3) hf (by decide) ?_, fun z => absurd (nI_le (Nat.le_refl k) (by omega)) z⟩
      rw [eo]
      refine wj ?_
      cases c with
      | none => exact br_t (by decide) (br_t rfl hpost)
      | some x =>
        have hx := gc x rfl
        refine br_f (nI_pos (by omega)) ?_
        rw [show nI L = 0 ↔ L = 0 from nI_eq (b := 0) (by omega) (by decide)]
        refine ⟨fun z => ?_, fun z => br_t rfl ?_⟩
        · subst z
          cases o with
          | none => exact br_t (by decide) (br_f (by decide) hpost)
          | some q =>
            have hq := go q rfl
            refine br_f (nI_pos (by omega)) ?_
            rw [show gI (some x) = gI (some q) ↔ x = q from nI_eq (by omega) (by omega)]
            refine ⟨fun e => br_f (by decide) ?_, fun e => br_t rfl ?_⟩
            · have : finB (some q) 0 (some x) = true := by
                show ((0 : Nat) == 0 && (q == x)) = true
                rw [e]; simp
              rw [this] at hpost; exact hpost
            · have : finB (some q) 0 (some x) = false := by
                show ((0 : Nat) == 0 && (q == x)) = false
                rw [beq_eq_false_iff_ne.mpr (fun z => e z.symm)]; rfl
              rw [this] at hpost; exact hpost
        · have : finB o L (some x) = false := by
            show ((L == 0) && _) = false
            rw [beq_eq_false_iff_ne.mpr z]; rfl
          rw [this] at hpost; exact hpost
    | succ r ih =>
      intro k L c b tt hk hL c0 c1 gc cb hb hpost
      have hkp : k < p := by omega
      refine hP _ ⟨fun z => absurd z (nI_ge hkp (by omega)), fun _ => ⟨vp_in_nI (by omega) (by decide), ?_⟩⟩
      rw [tn_nI (n := k) (by omega), eg k (by omega)]
      refine cellOf5 ?_
      rw [show (1 : Int32) + nI k = nI (k + 1) by rw [i1, nI_add, Nat.add_comm]]
      refine wj ?_
      cases hcell : cellN (g k) with
      | none =>
        rw [rd_n hcell] at hpost
        exact br_t (by decide) hpost
      | some x =>
        have hx := (cellN_lt hcell).1
        refine br_f (nI_pos (by omega)) (holds_b (by omega) (fun hl => br_f (by decide) ?_) (fun hl => br_t rfl ?_))
        · rw [bt_nI (by omega)] at hl
          refine wj ?_
          rw [show nI k = 0 ↔ k = 0 from nI_eq (b := 0) (by omega) (by decide)]
          have nxt : ∀ (b' : Option Nat) (t' : Bool), dOk b' → post (rdN g K T i o r (k + 1) (delN L x) (some x) b' t') C → ∀ x49 : Int32, x49 = nI L &&& (((1 : Int32) <<< (nI x &&& 31)) ^^^ (-1 : Int32)) → ∀ x50 : Int32, x50 = nI k + (1 : Int32) → P (x49, nI x, gI b', bI t', x50) := by
            rintro b' t' hb' hq _ rfl _ rfl
            rw [del_I hL hx, show nI k + (1 : Int32) = nI (k + 1) from nI_1 k]
            exact ih (k + 1) (delN L x) (some x) b' t' (by omega) (del_lt hL) (fun z => absurd z (by omega)) (fun _ z => by cases z) (fun q hq => by rw [← Option.some.inj hq]; exact hx) (fun z => by cases z) hb' hq
          by_cases k0 : k = 0
          · obtain rfl := c0 k0
            obtain ⟨rfl, rfl⟩ := cb rfl
            rw [rd_i hcell hl] at hpost
            refine br_t k0 ?_
            cases i with
            | none => exact br_t (by decide) (wj (br_t (by rw [k0]; decide) (nxt none false hb hpost)))
            | some q =>
              have hq := gi q rfl
              refine br_f (nI_pos (by omega)) ?_
              rw [show gI (some x) = gI (some q) ↔ x = q from nI_eq (by omega) (by omega)]
              refine ⟨fun e => ?_, fun e => ?_⟩
              · rw [show inB (some q) x = true from beq_iff_eq.mpr e.symm, if_pos rfl] at hpost
                exact wj (br_t (by rw [k0]; decide) (nxt none false hb hpost))
              rw [show inB (some q) x = false from beq_eq_false_iff_ne.mpr (fun z => e z.symm)] at hpost
              exact hpost
          · refine br_f k0 (wj (br_f (nI_nle (by omega) (by omega)) ?_))
            cases c with
            | none => exact absurd rfl (c1 (by omega))
            | some y =>
              have hy := gc y rfl
              refine directionTo5 hy hx (wj ?_)
              cases hd : dirTo y x 4 with
              | none =>
                rw [rd_d hcell hl hd] at hpost
                exact br_t (by decide) hpost
              | some d =>
                have hd4 := (dirTo_s hd).1
                rw [rd_s hcell hl hd] at hpost
                refine br_f (nI_pos (by omega)) ⟨vp_in_nI ht (by decide), mayStep5 hK hx hb hd4 ?_⟩
                rw [bt_nI (by omega), cbN_bit hT hx]
                refine br_b (fun q => ?_) (fun q => turn5 hb hd4 ?_)
                · rw [q] at hpost; exact hpost
                · rw [q, if_pos rfl] at hpost
                  exact nxt (some d) (turnN b d) (fun z hz => by rw [← Option.some.inj hz]; exact hd4) hpost
        · rw [bt_nI (by omega)] at hl
          rw [rd_f hcell hl] at hpost
          exact hpost
  exact core p 0 E none none false (by omega) hE (fun _ => rfl) (fun z => absurd z (by omega)) (fun q hq => by cases hq) (fun _ => ⟨rfl, rfl⟩) (fun q hq => by cases hq) h
theorem read6 {s t f p K T E n m : Nat} {i o : Option Nat} (hn : n ≤ 6) (es : S 1 0 = nI n) (hm : m ≤ 6) (ms : S 1 1 = nI m) (hs : s < 4) (ht : t < m) (hf : f < n) (hK : K < 6) (hT : T < 65536) (hE : E < 65536) (gi : gOk i) (go : gOk o) (hQ6 : Q6 S t f K T E i o) (hb : S 30 s ≠ 0) (hp : p ≤ 40) (ep : S 31 s = nI p) {g : Nat → Int64} (eg : ∀ k, k < 40 → J 32 (40 * s + k) = g k) {post : Int32 → Bun → Prop} (h : post (rdN g K T i o p 0 E none none false) S) : wX6_read S J (nI s) (nI t) (nI f) post := by
  obtain ⟨q1, q2, q3, q4, q5⟩ := hQ6
  have hf6 : f < 6 := by omega
  have ht6 : t < 6 := by omega
  have vs : vp_in (nI s) 4 := vp_in_nI hs (by decide)
  unfold wX6_read
  refine wrong6 (fun q => absurd rfl (q s hs)) (fun h2 hh2 e2 q => ?_) (fun h2 hh2 e2 q => br_t rfl ?_)
  · obtain rfl : s = h2 := (nI_eq (by omega) (by omega)).mp e2
    exact absurd q hb
  refine isT6 hm ms (fun _ _ _ => wj (br_f (by decide) ?_)) (fun h => absurd rfl (h t ht))
  refine isF6' hn es (fun _ _ _ => br_f (by decide) ?_) (fun h => absurd rfl (h f hf))
  refine earth6 hf6 ?_
  rw [q3, tn_nI (n := s) (by omega), ep]
  intro P hP
  have core : ∀ (r k L : Nat) (c b : Option Nat) (tt : Bool), k + r = p → L < 65536 → (k = 0 → c = none) → (0 < k → c ≠ none) → gOk c → (c = none → b = none ∧ tt = false) → dOk b → post (rdN g K T i o r k L c b tt) S → P (nI L, gI b, bI tt, gI c, nI k) := by
    intro r
    induction r with
    | zero =>
      intro k L c b tt hk hL c0 c1 gc cb hb hpost
      obtain rfl : k = p := by omega
      rw [rd_0] at hpost
      refine hP _ ⟨vs, fun _ => its6 (w := 3) hf6 (by decide) ?_, fun z => absurd (nI_le (Nat.le_refl k) (by omega)) z⟩
      rw [q5]
      have fin : ∀ y : Int32, (∀ x, c = some x → y = bI (inB o x)) → ((gI c < 0 → post (100 : Int32) S) ∧ (¬ (gI c < 0) → ((nI L = 0 → ((y = 0 → post (100 : Int32) S) ∧ (¬ (y = 0) → post (0 : Int32) S))) ∧ (¬ (nI L = 0) → post (100 : Int32) S)))) := by
        intro y hy
        cases c with
        | none => exact br_t (by decide) hpost
        | some x =>
          have hx := gc x rfl
          obtain rfl := hy x rfl
          refine br_f (nI_pos (by omega)) ?_
          rw [show nI L = 0 ↔ L = 0 from nI_eq (b := 0) (by omega) (by decide)]
          refine ⟨fun z => br_b (fun e => ?_) (fun e => ?_), fun z => ?_⟩
          · have : finB o L (some x) = false := by
              show ((L == 0) && inB o x) = false
              rw [e, Bool.and_false]
            rw [this] at hpost; exact hpost
          · have : finB o L (some x) = true := by
              show ((L == 0) && inB o x) = true
              rw [e, z]; rfl
            rw [this] at hpost; exact hpost
          · have : finB o L (some x) = false := by
              show ((L == 0) && _) = false
              rw [beq_eq_false_iff_ne.mpr z]; rfl
            rw [this] at hpost; exact hpost
      refine wj ?_
      cases o with
      | none => exact br_t (by decide) (fin 1 (fun x _ => rfl))
      | some q =>
        have hq := go q rfl
        refine br_f (nI_pos (by omega)) (its6 (w := 3) hf6 (by decide) ?_)
        rw [q5]
        have eqc : ∀ x, c = some x → (gI (some q) = gI c ↔ q = x) := by
          intro x hx
          have := gc x hx
          rw [hx]
          exact nI_eq (by omega) (by omega)
        refine ⟨fun e => fin 1 (fun x hx => ?_), fun e => fin 0 (fun x hx => ?_)⟩
        · rw [show inB (some q) x = true from beq_iff_eq.mpr ((eqc x hx).mp e)]; rfl
        · rw [show inB (some q) x = false from beq_eq_false_iff_ne.mpr (fun z => e ((eqc x hx).mpr z))]; rfl
    | succ r ih =>
      intro k L c b tt hk hL c0 c1 gc cb hb hpost
      have hkp : k < p := by omega
      refine hP _ ⟨vs, fun z => absurd z (nI_ge hkp (by omega)), fun _ => ?_⟩
      rw [ix40 hs (by omega), tn_nI (n := 40 * s + k) (by omega), eg k (by omega)]
      refine ⟨vp_in_nI (by omega) (by decide), ?_⟩
      rintro _ rfl
      rw [show nI k + (1 : Int32) = nI (k + 1) from nI_1 k]
      have e0 : (0 : Int64).toInt = 0 := rfl
      have e15 : (15 : Int64).toInt = 15 := rfl
      cases hcell : cellN (g k) with
      | none =>
        rw [rd_n hcell] at hpost
        refine in_l (fun z1 z2 => ?_) (fun _ => wj (br_t rfl hpost))
        rw [e0] at z1; rw [e15] at z2
        unfold cellN at hcell
        rw [if_pos ⟨z1, by omega⟩] at hcell
        cases hcell
      | some x =>
        have hx := (cellN_lt hcell).1
        have hx2 := (cellN_lt hcell).2
        refine in_l (fun _ _ => wj (br_f (by decide) ?_)) (fun z => absurd ⟨by rw [e0]; omega, by rw [e15]; omega⟩ z)
        rw [cell_I hcell]
        refine has_b (by omega) (fun hl => br_f (by decide) ?_) (fun hl => br_t rfl ?_)
        · rw [bt_nI (by omega)] at hl
          rintro _ rfl
          rw [show nI k = 0 ↔ k = 0 from nI_eq (b := 0) (by omega) (by decide)]
          have nxt : ∀ (b' : Option Nat) (t' : Bool), dOk b' → post (rdN g K T i o r (k + 1) (delN L x) (some x) b' t') S → ∀ x49 : Int32, x49 = nI L &&& (((1 : Int32) <<< (nI x &&& 31)) ^^^ (-1 : Int32)) → ∀ x50 : Int32, x50 = nI (k + 1) → P (x49, gI b', bI t', nI x, x50) := by
            rintro b' t' hb' hq _ rfl _ rfl
            rw [del_I hL hx]
            exact ih (k + 1) (delN L x) (some x) b' t' (by omega) (del_lt hL) (fun z => absurd z (by omega)) (fun _ z => by cases z) (fun q hq => by rw [← Option.some.inj hq]; exact hx) (fun z => by cases z) hb' hq
          by_cases k0 : k = 0
          · obtain rfl := c0 k0
            obtain ⟨rfl, rfl⟩ := cb rfl
            rw [rd_i hcell hl] at hpost
            refine wj (br_t k0 (wj (br_t k0 (its6 (w := 2) hf6 (by decide) ?_))))
            rw [q4]
            cases i with
            | none =>
              refine br_t (by decide) (br_f (by decide) (wj (br_t (by decide) ?_)))
              exact nxt none false hb hpost
            | some q =>
              have hq := gi q rfl
              refine br_f (nI_pos (by omega)) (its6 (w := 2) hf6 (by decide) ?_)
              rw [q4, show gI (some q) = nI x ↔ q = x from nI_eq (by omega) (by omega)]
              refine ⟨fun e => br_f (by decide) (wj (br_t (by decide) ?_)), fun e => br_t rfl ?_⟩
              · rw [show inB (some q) x = true from beq_iff_eq.mpr e, if_pos rfl] at hpost
                exact nxt none false hb hpost
              · rw [show inB (some q) x = false from beq_eq_false_iff_ne.mpr e] at hpost
                exact hpost
          · cases c with
            | none => exact absurd rfl (c1 (by omega))
            | some y =>
              have hy := gc y rfl
              refine wj (br_f k0 (towards6 hy hx (wj (br_f k0 ?_))))
              cases hd : dirTo y x 4 with
              | none =>
                rw [rd_d hcell hl hd] at hpost
                exact br_t (by decide) (br_t rfl hpost)
              | some d =>
                have hd4 := (dirTo_s hd).1
                rw [rd_s hcell hl hd] at hpost
                refine br_f (nI_pos (by omega)) (mayGo6 (near := nearN T x) ht6 hK q1 hb hd4 (fun _ pp hpp => byTree6 hf6 hx q2 hpp) ?_)
                refine br_b (fun q => br_t rfl ?_) (fun q => br_f (by decide) (turnj hb hd4 ?_))
                · rw [q] at hpost; exact hpost
                · rw [q, if_pos rfl] at hpost
                  exact nxt (some d) (turnN b d) (fun z hz => by rw [← Option.some.inj hz]; exact hd4) hpost
        · rw [bt_nI (by omega)] at hl
          rw [rd_f hcell hl] at hpost
          exact hpost
  exact core p 0 E none none false (by omega) hE (fun _ => rfl) (fun z => absurd z (by omega)) (fun q hq => by cases hq) (fun _ => ⟨rfl, rfl⟩) (fun q hq => by cases hq) h
theorem lo_read_ok : lo_read (InvG FI) := by
  intro C N S J a1 a2 a3 hI
  obtain ⟨n, hn, en⟩ := hI.1.1.1
  have es : S 1 0 = nI n := hI.1.2.1.trans en
  obtain ⟨m, hm, em⟩ := hI.1.1.2.1
  have ms : S 1 1 = nI m := hI.1.2.2.1.trans em
  by_cases hex : ∃ h t f : Nat, h < 4 ∧ t < m ∧ f < n ∧ a1 = nI h ∧ S 30 h ≠ 0 ∧ a2 = nI t ∧ a3 = nI f
  · obtain ⟨h, t, f, hh, ht, hf, e1, hb, e2, e3⟩ := hex
    subst e1 e2 e3
    obtain ⟨c0, c1, ⟨p, hp, ep⟩, ok, z0, cN⟩ := hI.2.2.2.2.2.1 h hh
    obtain ⟨K, pc, T, E, i, o, hQ, hQ6, hp6⟩ := QD_of (f := f) hI hm em ht (by omega)
    obtain ⟨⟨ek, epc, eT, eE, ei, eo⟩, hK, hpc, hT, hE, gi, go⟩ := hQ
    refine read5 (g := fun k => J 32 (40 * h + k)) hh (by omega) (by omega) hK hT hE gi go ek eT eE ei eo hp (c1.trans ep) (fun k hk => cN k hk) ?_ (fun q hq => ?_)
    · exact read6 (g := fun k => J 32 (40 * h + k)) hn es hm ms hh ht hf hK hT hE gi go hQ6 hb hp ep (fun k hk => rfl) ⟨rfl, hI⟩
    · refine lookAt5 hI hn en hm em (fun z => absurd rfl (z h hh)) (fun h2 hh2 e2 z => ?_) (fun h2 hh2 e2 z z2 => absurd ⟨t, f, ht, hf, rfl, rfl⟩ z2) (fun _ _ _ _ _ _ _ _ _ _ => hq)
      obtain rfl : h = h2 := (nI_eq (by omega) (by omega)).mp e2
      exact absurd z hb
  · unfold wX5_read
    refine lookAt5 hI hn en hm em (fun z => br_f (by decide) (find5 (k := 0) (by decide) ?_)) (fun h hh e z => br_f (by decide) (find5 (k := 5) (by decide) ?_)) (fun h hh e z z2 => br_f (by decide) (find5 (k := 0) (by decide) ?_)) (fun h t f hh ht hf e1 z e2 e3 => absurd ⟨h, t, f, hh, ht, hf, e1, z, e2, e3⟩ hex)
    · unfold wX6_read
      exact wrong6 (fun _ => br_f (by decide) (both hI (by decide) e_b)) (fun h hh e => absurd e (z h hh)) (fun h hh e => absurd e (z h hh))
    · unfold wX6_read
      refine wrong6 (fun q => absurd e (q h hh)) (fun _ _ _ _ => br_f (by decide) (both hI (by decide) e_m)) (fun h2 hh2 e2 q => ?_)
      rw [e] at e2
      obtain rfl : h = h2 := (nI_eq (by omega) (by omega)).mp e2
      exact absurd z q
    · unfold wX6_read
      refine wrong6 (fun q => absurd e (q h hh)) (fun h2 hh2 e2 q => ?_) (fun h2 hh2 e2 q => br_t rfl ?_)
      · rw [e] at e2
        obtain rfl : h = h2 := (nI_eq (by omega) (by omega)).mp e2
        exact absurd q z
      refine isT6 hm ms (fun t ht et => wj (br_f (by decide) ?_)) (fun _ => wj (br_t rfl (both hI (by decide) e_b)))
      exact isF6' hn es (fun f hf ef => absurd ⟨t, f, ht, hf, et, ef⟩ z2) (fun _ => br_t rfl (both hI (by decide) e_b))
end
