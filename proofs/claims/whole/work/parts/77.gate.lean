/-! gate -/
section
variable {K B E : Nat} {i o : Option Nat}
theorem st_first {s : Nat} {m : Nod} (hE : E < 65536) (h : m ∈ stN K B E i o s) : m.2.1 0 = s ∧ E.testBit (m.2.1 (m.1 - 1)) = true := by
  cases hok : stOk E i o s with
  | false => rw [stN_f hok] at h; cases h
  | true =>
    rw [stN_t hok] at h
    have hb := stOk_bit hok
    obtain ⟨p1, p2, p3⟩ := nds_path 17 1 (fun _ => s) (delN E s) s none false 0 (del_lt hE) (Nat.le_refl 1) rfl m h
    refine ⟨p2 0 (by decide), ?_⟩
    by_cases e : m.1 = 1
    · rw [e, p2 (1 - 1) (by decide)]; exact hb
    · have := (p3 (m.1 - 1) (by omega) (by omega)).1
      rw [del_bit hE] at this
      split at this
      · exact absurd this (by decide)
      · exact this
theorem whN_in {c : Nat} (hE : E < 65536) : whN K B E (some c) o = (whN K B E none o).filter (fun m => m.2.1 0 == c) := by
  rw [whN_cat, whN_cat, cat_filter]
  refine cat_cong (fun s hs => ?_)
  by_cases e : s = c
  · subst e
    have e1 : whS K B E (some s) o s = whS K B E none o s := by
      unfold whS stN stOk
      rw [show inB (some s) s = true from beq_self_eq_true s, show inB none s = true from rfl]
    rw [e1]
    refine (List.filter_eq_self.mpr (fun m hm => ?_)).symm
    have := (st_first hE (List.mem_filter.mp hm).1).1
    exact beq_iff_eq.mpr this
  · have e1 : whS K B E (some c) o s = [] := by
      unfold whS
      rw [stN_f (by unfold stOk; rw [show inB (some c) s = false from beq_eq_false_iff_ne.mpr (fun z => e z.symm), Bool.and_false]; rfl)]
      rfl
    rw [e1]
    refine (List.filter_eq_nil_iff.mpr (fun m hm => ?_)).symm
    have := (st_first hE (List.mem_filter.mp hm).1).1
    rw [this, beq_eq_false_iff_ne.mpr e]; decide
theorem whN_out {c : Nat} (hE : E < 65536) : whN K B E i (some c) = (whN K B E i none).filter (fun m => m.2.1 (m.1 - 1) == c) := by
  unfold whN
  rw [List.filter_filter]
  cases hb : E.testBit c with
  | true =>
    have e : allN K B E i (some c) = allN K B E i none := by
      refine cat_cong (fun s hs => ?_)
      unfold stN stOk
      rw [show outB E (some c) = true from hb, show outB E none = true from rfl]
    rw [e]
    refine congrArg (fun q => (allN K B E i none).filter q) ?_
    funext m
    show ((m.1 == cdN E) && (m.2.1 (m.1 - 1) == c)) = ((m.2.1 (m.1 - 1) == c) && ((m.1 == cdN E) && true))
    rw [Bool.and_true, Bool.and_comm]
  | false =>
    rw [all_0 (i := i) (o := some c) (E := E) (Or.inr hb)]
    refine (List.filter_eq_nil_iff.mpr (fun m hm => ?_)).symm
    obtain ⟨s, hs, hm⟩ := mem_cat hm
    have := (st_first hE hm).2
    have ne : m.2.1 (m.1 - 1) ≠ c := fun z => by rw [z, hb] at this; exact absurd this (by decide)
    rw [beq_eq_false_iff_ne.mpr ne, Bool.false_and]; decide
theorem mn_bst : ∀ (l : List Nod) (x : Option Nod), l.foldl (fun x m => mup x m.2.2) (x.map (fun m => m.2.2)) = (l.foldl bup x).map (fun m => m.2.2)
  | [], _ => rfl
  | a :: l, x => by
    show l.foldl (fun x m => mup x m.2.2) (mup (x.map (fun m => m.2.2)) a.2.2) = (l.foldl bup (bup x a)).map (fun m => m.2.2)
    rw [← mn_bst l (bup x a)]
    cases x with
    | none => rfl
    | some y =>
      show l.foldl _ (if a.2.2 < y.2.2 then some a.2.2 else some y.2.2) = l.foldl _ ((if a.2.2 < y.2.2 then some a else some y).map (fun m => m.2.2))
      by_cases q : a.2.2 < y.2.2
      · rw [if_pos q, if_pos q]; rfl
      · rw [if_neg q, if_neg q]; rfl
theorem mnT_bst (l : List Nod) : mnT l = (bst l).map (fun m => m.2.2) := mn_bst l none
theorem cst_mn {p : Nat} : cstN K p (bst (whN K B E i o)) = (mnT (whN K B E i o)).map (fun v => p * cdN E + drN K * v) := by
  rw [mnT_bst]
  cases h : bst (whN K B E i o) with
  | none => rfl
  | some m =>
    have := (wh_mem.mp (bst_mem h)).2.1
    show some (p * m.1 + drN K * m.2.2) = some (p * cdN E + drN K * m.2.2)
    rw [this]
theorem pk_map {g h : Nat → Option Nat} {φ : Nat → Nat} (hφ : ∀ a b, a < b ↔ φ a < φ b) : ∀ {n : Nat}, (∀ k, k < n → h k = (g k).map φ) → pkN h n = (pkN g n).map (fun x => (x.1, φ x.2))
  | 0, _ => rfl
  | n + 1, e => by
    have ih := pk_map hφ (n := n) (fun k hk => e k (by omega))
    have en := e n (by omega)
    cases hg : g n with
    | none =>
      rw [hg] at en
      rw [pk_no hg, pk_no en]; exact ih
    | some v =>
      rw [hg] at en
      have en' : h n = some (φ v) := en
      cases hp : pkN g n with
      | none =>
        rw [hp] at ih
        rw [pk_new hg hp, pk_new en' ih]; rfl
      | some x =>
        rw [hp] at ih
        have ih' : pkN h n = some (x.1, φ x.2) := ih
        rw [pk_old hg hp, pk_old en' ih']
        by_cases q : v < x.2
        · rw [if_pos q, if_pos ((hφ _ _).mp q)]; rfl
        · rw [if_neg q, if_neg (fun z => q ((hφ _ _).mpr z))]; rfl
theorem pkF_map {x : Option (Nat × Nat)} {φ : Nat → Nat} : pkF (x.map (fun y => (y.1, φ y.2))) = pkF x := by
  cases x <;> rfl
/-- the class's loop over a row of turns -/
theorem gate5 {R : Nat → Int32} {h : Nat → Option Nat} (hR : ∀ k, k < 16 → R k = gI (h k)) (hb : ∀ k v, h k = some v → v < 100) {A : Int32 → Prop} (hA : A (pkF (pkN h 16))) :
    wloop (σ := Int32 × Int32) (fun K55 z => match z with | (x53, x54) => (((16 : Int32) ≤ x54 → A x53) ∧ (¬ ((16 : Int32) ≤ x54) → vp_in x54 16 ∧ (((R x54.toNatClampNeg) < 0 → ∀ x66 : Int32, x66 = x54 + (1 : Int32) → K55 (x53, x66)) ∧ (¬ ((R x54.toNatClampNeg) < 0) → ((x53 < 0 → ∀ x68 : Int32, x68 = x54 + (1 : Int32) → K55 (x54, x68)) ∧ (¬ (x53 < 0) → vp_in x54 16 ∧ vp_in x53 16 ∧ (((R x53.toNatClampNeg) ≤ (R x54.toNatClampNeg) → ∀ x70 : Int32, x70 = x54 + (1 : Int32) → K55 (x53, x70)) ∧ (¬ ((R x53.toNatClampNeg) ≤ (R x54.toNatClampNeg)) → ∀ x72 : Int32, x72 = x54 + (1 : Int32) → K55 (x54, x72)))))))))) ((-1 : Int32), (0 : Int32)) := by
  refine wl_up2 (fun j x y => x = pkF (pkN h j) ∧ y = nI j) 16 ?_ (i := 0) (by omega) ⟨rfl, rfl⟩
  rintro j x y KK hj ⟨rfl, rfl⟩ hKK
  refine ⟨fun hc => ?_, fun hc => ?_⟩
  · have := (nI_leI (a := 16) (by decide) (by omega)).mp hc
    obtain rfl : j = 16 := by omega
    exact hA
  · have hlt : j < 16 := by
      rcases Nat.lt_or_ge j 16 with h' | h'
      · exact h'
      · exact absurd (nI_le (a := 16) h' (by omega)) hc
    have vj : vp_in (nI j) 16 := vp_in_nI hlt (by decide)
    rw [tn_nI (by omega), hR j hlt]
    refine ⟨vj, ?_⟩
    have nx : ∀ a : Int32, a = pkF (pkN h (j + 1)) → ∀ x : Int32, x = nI j + (1 : Int32) → KK (a, x) := by
      rintro _ rfl _ rfl
      exact hKK _ _ hlt ⟨rfl, nI_1 j⟩
    cases hg : h j with
    | none => exact br_t (by decide) (nx _ (by rw [pk_no hg]))
    | some v =>
      have hv := hb j v hg
      refine br_f (nI_pos (by omega)) ?_
      cases hp : pkN h j with
      | none => exact br_t (by decide) (nx _ (by rw [pk_new hg hp]; rfl))
      | some z =>
        obtain ⟨z1, z2⟩ := pkn_in hp
        have hz := hb _ _ z2
        refine br_f (nI_pos (by omega)) ⟨vj, vp_in_nI (by omega) (by decide), ?_⟩
        rw [show (pkF (some z)).toNatClampNeg = z.1 from tn_nI (by omega), hR z.1 (by omega), z2, show gI (some z.2) ≤ gI (some v) ↔ z.2 ≤ v from nI_leI (by omega) (by omega)]
        refine ⟨fun q => nx _ ?_, fun q => nx _ ?_⟩
        · rw [pk_old hg hp, if_neg (by omega)]
        · rw [pk_old hg hp, if_pos (by omega)]; rfl
end
section
theorem gate6 {S : Bun} {J : Lon} {t f w K p T E : Nat} {i o : Option Nat} {n m : Nat} (hn : n ≤ 6) (es : S 1 0 = nI n) (hm : m ≤ 6) (ms : S 1 1 = nI m) (ht : t < m) (hf : f < n) (hw : 2 ≤ w ∧ w ≤ 3) (hK : K < 6) (hp : p ≤ 9) (hT : T < 65536) (hE : E < 65536) (gi : gOk i) (go : gOk o) (hQ6 : Q6 S t f K T E i o) (hp6 : S 1 (45 + 2 * t) = nI p) {g : Nat → Option Nat} (hg : ∀ c, c < 16 → g c = cstN K p (bst (whN K (bsN K T) E (if w = 2 then some c else i) (if w = 2 then o else some c)))) (gb : ∀ c v, g c = some v → v < 1000000) {post : Int32 → Bun → Prop} (hpost : ∀ S' : Bun, Fr S S' → ((0 ≤ pkF (pkN g 16) → post (pkF (pkN g 16)) S') ∧ (¬ (0 ≤ pkF (pkN g 16)) → wX6_finds S' J (-1000000004) (fun r25 S27 => post r25 S27)))) : wX6_gate S J (nI t) (nI f) (nI w) post := by
  obtain ⟨q1, q2, q3, q4, q5⟩ := hQ6
  have hf6 : f < 6 := by omega
  have ht6 : t < 6 := by omega
  have x0 : (2 : Int32) + 6 * nI f + nI w = nI (2 + (6 * f + w)) := ix_s hf6 (by omega)
  have v0 : vp_in (nI (2 + (6 * f + w))) 56 := vp_in_nI (by omega) (by decide)
  unfold wX6_gate
  refine isT6 hm ms (fun _ _ _ => wj (br_f (by decide) ?_)) (fun h => absurd rfl (h t ht))
  refine isF6' hn es (fun _ _ _ => br_f (by decide) ?_) (fun h => absurd rfl (h f hf))
  refine in_r (lo := 2) (hi := 3) (by decide) (by decide) (by decide) (fun _ _ _ _ => br_f (by decide) ?_) (fun hb => absurd rfl (hb w hw.1 hw.2))
  refine its6 hf6 (by omega) ?_
  rw [x0, tn_nI (by omega)]
  refine wl_up4 (fun j x y z S6 => x = pkF (pkN g j) ∧ y = pkB (pkN g j) ∧ z = nI j ∧ ∃ v, Fr (up S 1 (2 + (6 * f + w)) v) S6) 16 ?_ (i := 0) (by omega) ⟨rfl, rfl, rfl, _, fr_self⟩
  rintro j x y z S6 KK hj ⟨rfl, rfl, rfl, v, k1⟩ hKK
  refine ⟨fun hc => ⟨v0, ?_⟩, fun hc => ⟨v0, ?_⟩⟩
  · have := (nI_leI (a := 16) (by decide) (by omega)).mp hc
    obtain rfl : j = 16 := by omega
    rintro _ rfl
    exact hpost _ (fr_back k1 rfl)
  · have hlt : j < 16 := by
      rcases Nat.lt_or_ge j 16 with h' | h'
      · exact h'
      · exact absurd (nI_le (a := 16) h' (by omega)) hc
    rintro _ rfl
    have k2 := fr_put (v' := nI j) k1
    have r1 := k2.one
    have gj : gOk (some j) := fun q hq => by rw [← Option.some.inj hq]; exact hlt
    refine costOf6 (K := K) (T := T) (E := E) (i := if w = 2 then some j else i) (o := if w = 2 then o else some j) (p := p) ht6 hf6 hK hT hE ?_ ?_ ?_ ?_ (fun S' u1 u2 => ?_)
    · split
      · exact gj
      · exact gi
    · split
      · exact go
      · exact gj
    · unfold Q6
      by_cases w2 : w = 2
      · subst w2
        rw [r1, up_ki (by omega), up_ki (by omega), up_ki (by omega), up_ss, up_ki (by omega), if_pos rfl, if_pos rfl]
        exact ⟨q1, q2, q3, rfl, q5⟩
      · obtain rfl : w = 3 := by omega
        rw [r1, up_ki (by omega), up_ki (by omega), up_ki (by omega), up_ki (by omega), up_ss, if_neg w2, if_neg w2]
        exact ⟨q1, q2, q3, q4, rfl⟩
    · rw [r1, up_ki (by omega)]; exact hp6
    · rw [← hg j hlt]
      refine pk6 (by omega) gb (Q := fun a b => ∀ x : Int32, x = nI j + (1 : Int32) → KK (a, b, x, S')) ?_
      rintro _ rfl
      exact hKK _ _ _ _ hlt ⟨rfl, rfl, nI_1 j, _, k2.tr u1⟩
theorem lo_gate_ok : lo_gate (InvG FIs) := by
  intro C N S J a1 a2 a3 hI
  obtain ⟨n, hn, en⟩ := hI.1.1.1
  have es : S 1 0 = nI n := hI.1.2.1.trans en
  obtain ⟨m, hm, em⟩ := hI.1.1.2.1
  have ms : S 1 1 = nI m := hI.1.2.2.1.trans em
  have hbad : (¬ ∃ t f w : Nat, t < m ∧ f < n ∧ (2 ≤ w ∧ w ≤ 3) ∧ a1 = nI t ∧ a2 = nI f ∧ a3 = nI w) → wX5_finding C N 0 (fun r C1 => wX6_gate S J a1 a2 a3 (fun r1 S1 => r = r1 ∧ InvG FIs C1 N S1 J)) := by
    intro hb
    refine find5 (k := 0) (by decide) ?_
    unfold wX6_gate
    have no := both (N := N) hI (k := 0) (by decide) e_b
    refine isT6 hm ms (fun t ht et => wj (br_f (by decide) ?_)) (fun _ => wj (br_t rfl no))
    refine isF6' hn es (fun f hf ef => br_f (by decide) ?_) (fun _ => br_t rfl no)
    exact in_r (lo := 2) (hi := 3) (by decide) (by decide) (by decide) (fun w h1 h2 ew => absurd ⟨t, f, w, ht, hf, ⟨h1, h2⟩, et, ef, ew⟩ hb) (fun _ => br_t rfl no)
  unfold wX5_gate
  refine hasT5 hm em (fun t ht et => wj (br_f (by decide) ?_)) (fun h1 => wj (br_t rfl (hbad (fun ⟨t, _, _, ht, _, _, e, _⟩ => h1 t ht e))))
  refine hasF5 hn en (fun f hf ef => br_f (by decide) ?_) (fun h1 => br_t rfl (hbad (fun ⟨_, f, _, _, hf, _, _, e, _⟩ => h1 f hf e)))
  have e2 : (2 : Int32).toInt = 2 := rfl
  have e3 : (3 : Int32).toInt = 3 := rfl
  rcases rng_or a3 2 3 (by decide) with ⟨w, hw1, hw2, ew⟩ | ⟨hno, hr⟩
  · subst et ef ew
    have tw := nI_toInt (n := w) (by omega)
    refine br_f (by rw [fa_lt, e2, tw]; omega) (br_t (by rw [fa_le, e3, tw]; omega) ?_)
    have hf6 : f < 6 := by omega
    have ht6 : t < 6 := by omega
    obtain ⟨K, p, T, E, i, o, hQ, hQ6, hp6⟩ := QD_of (f := f) hI hm em ht hf6
    obtain ⟨⟨ek, ep, eT, eE, ei, eo⟩, hK, hp, hT, hE, gi, go⟩ := hQ
    have h6 : isF 6 := Or.inl rfl
    have mono : ∀ a b, a < b ↔ (fun v => p * cdN E + drN K * v) a < (fun v => p * cdN E + drN K * v) b := by
      intro a b
      have d1 := (dr_le hK).1
      show a < b ↔ p * cdN E + drN K * a < p * cdN E + drN K * b
      rw [Nat.add_lt_add_iff_left]
      exact (Nat.mul_lt_mul_left (by omega)).symm
    have fin : ∀ (F : Bun) (R : Nat → Int32) (h : Nat → Option Nat), FIs F → (∀ k, k < 16 → R k = gI (h k)) → (∀ k v, h k = some v → v < 100) → (∀ c, c < 16 → cstN K p (bst (whN K (bsN K T) E (if w = 2 then some c else i) (if w = 2 then o else some c))) = (h c).map (fun v => p * cdN E + drN K * v)) → ((0 ≤ pkF (pkN h 16) → wX6_gate S J (nI t) (nI f) (nI w) (fun r1 S1 => pkF (pkN h 16) = r1 ∧ InvG FIs (va_up C 6 F) N S1 J)) ∧ (¬ (0 ≤ pkF (pkN h 16)) → wX5_finding (va_up C 6 F) N (3 : Int32) (fun r C1 => wX6_gate S J (nI t) (nI f) (nI w) (fun r1 S1 => r = r1 ∧ InvG FIs C1 N S1 J)))) := by
      intro F R h hF hR hb hc
      have hI2 := hI.fur h6 hF
      have pkE : pkN (fun c => if c < 16 then (h c).map (fun v => p * cdN E + drN K * v) else none) 16 = (pkN h 16).map (fun x => (x.1, p * cdN E + drN K * x.2)) := pk_map mono (fun k hk => by show (if k < 16 then _ else _) = _; rw [if_pos hk])
      have pkE' : pkF (pkN (fun c => if c < 16 then (h c).map (fun v => p * cdN E + drN K * v) else none) 16) = pkF (pkN h 16) := by rw [pkE]; exact pkF_map (φ := fun v => p * cdN E + drN K * v)
      have M := fun {post : Int32 → Bun → Prop} => gate6 (post := post) (J := J) (g := fun c => if c < 16 then (h c).map (fun v => p * cdN E + drN K * v) else none) hn es hm ms ht hf ⟨hw1, hw2⟩ hK hp.2 hT hE gi go hQ6 hp6 (fun c hc16 => by show (if c < 16 then _ else _) = _; rw [if_pos hc16]; exact (hc c hc16).symm) (fun c v hv => by
        have hv' : (if c < 16 then (h c).map (fun v => p * cdN E + drN K * v) else none) = some v := hv
        by_cases q : c < 16
        · rw [if_pos q, ← hc c q] at hv'
          have := cst_bnd hE hK hp.2 hv'
          omega
        · rw [if_neg q] at hv'; cases hv')
      rw [pkE'] at M
      refine ⟨fun q => M (fun S' u1 => br_t q ⟨rfl, hI2.fr u1⟩), fun q => find5 (k := 3) (by decide) (M (fun S' u1 => br_f q (both (hI2.fr u1) (by decide) e_n)))⟩
    by_cases w2 : w = 2
    · subst w2
      refine wj (br_t rfl (wj (br_f (by decide) (mark5 (w := 3) hf6 (by decide) ?_))))
      rw [eo, tn_nI (by omega), ek]
      refine ⟨vp_in_nI ht6 (by decide), earth5 hf6 (mark5 (w := 1) hf6 (by decide) ?_)⟩
      rw [eE, eT]
      refine ask5 (i := none) (hI.2.2.2.2.2.2 6 h6) hK hE (fun q hq => by cases hq) go (fun F u1 u2 => ?_)
      rintro _ rfl
      refine br_t rfl ?_
      rw [up_s]
      obtain ⟨_, _, _, _, _, _, ⟨r0, r1, r2, r3, r4⟩, _⟩ := u2
      refine gate5 (R := F 10) (h := fun c => mnT ((whN K (bsN K T) E none o).filter (fun m => m.2.1 0 == c))) r3 (fun k v hv => ?_) (A := fun x => ((0 ≤ x → wX6_gate S J (nI t) (nI f) (nI 2) (fun r1 S1 => x = r1 ∧ InvG FIs (va_up C 6 F) N S1 J)) ∧ (¬ (0 ≤ x) → wX5_finding (va_up C 6 F) N (3 : Int32) (fun r C1 => wX6_gate S J (nI t) (nI f) (nI 2) (fun r1 S1 => r = r1 ∧ InvG FIs C1 N S1 J))))) ?_
      · obtain ⟨x, hx, e⟩ := mnT_mem hv
        rw [e]; exact r0 x (List.mem_filter.mp hx).1
      · refine fin F (F 10) _ u1 r3 (fun k v hv => ?_) (fun c hc => ?_)
        · obtain ⟨x, hx, e⟩ := mnT_mem hv
          rw [e]; exact r0 x (List.mem_filter.mp hx).1
        · rw [if_pos rfl, if_pos rfl, cst_mn, whN_in hE]
    · obtain rfl : w = 3 := by omega
      refine wj (br_f (by decide) (mark5 (w := 2) hf6 (by decide) (wj (br_t rfl ?_))))
      rw [ei, tn_nI (by omega), ek]
      refine ⟨vp_in_nI ht6 (by decide), earth5 hf6 (mark5 (w := 1) hf6 (by decide) ?_)⟩
      rw [eE, eT]
      refine ask5 (o := none) (hI.2.2.2.2.2.2 6 h6) hK hE gi (fun q hq => by cases hq) (fun F u1 u2 => ?_)
      rintro _ rfl
      refine br_f (by decide) ?_
      rw [up_s]
      obtain ⟨_, _, _, _, _, _, ⟨r0, r1, r2, r3, r4⟩, _⟩ := u2
      refine gate5 (R := F 11) (h := fun c => mnT ((whN K (bsN K T) E i none).filter (fun m => m.2.1 (m.1 - 1) == c))) r4 (fun k v hv => ?_) (A := fun x => ((0 ≤ x → wX6_gate S J (nI t) (nI f) (nI 3) (fun r1 S1 => x = r1 ∧ InvG FIs (va_up C 6 F) N S1 J)) ∧ (¬ (0 ≤ x) → wX5_finding (va_up C 6 F) N (3 : Int32) (fun r C1 => wX6_gate S J (nI t) (nI f) (nI 3) (fun r1 S1 => r = r1 ∧ InvG FIs C1 N S1 J))))) ?_
      · obtain ⟨x, hx, e⟩ := mnT_mem hv
        rw [e]; exact r0 x (List.mem_filter.mp hx).1
      · refine fin F (F 11) _ u1 r4 (fun k v hv => ?_) (fun c hc => ?_)
        · obtain ⟨x, hx, e⟩ := mnT_mem hv
          rw [e]; exact r0 x (List.mem_filter.mp hx).1
        · rw [if_neg w2, if_neg w2, cst_mn, whN_out hE]
  · have hb := hbad (fun ⟨_, _, w, _, _, hw, _, _, e⟩ => hno w hw.1 hw.2 e)
    refine ⟨fun _ => hb, fun hz => ⟨fun h2 => absurd ?_ hr, fun _ => hb⟩⟩
    rw [fa_lt, e2] at hz; rw [fa_le, e3] at h2
    exact ⟨by omega, by omega⟩
end
