/-! sheets: copy, lays -/
section
variable {FI : Bun → Prop} {C C1 : Nat → Bun} {N N1 : Nat → Lon} {S S1 : Bun} {J J1 : Lon}
def okN (n : Nat) (a m : Int32) : Prop := 0 ≤ a.toInt ∧ 0 ≤ m.toInt ∧ a.toInt + m.toInt ≤ n
theorem sub_n {n : Nat} (hn : n ≤ 40) {a : Int32} (ha : 0 ≤ a.toInt) : (nI n - a).toInt = (n : Int) - a.toInt := by
  have r := fb_rng a
  have t := nI_toInt (n := n) (by omega)
  have := fb_subI (x := nI n) (y := a) (by omega) (by omega)
  rw [this, t]
theorem hasN3 {S : Bun} {J : Lon} {n : Nat} (hn : n ≤ 40) (e : S 0 1 = nI n) {a m : Int32} {post : Int32 → Prop} (h1 : okN n a m → post 1) (h0 : ¬ okN n a m → post 0) : wX3_hasNumbers S J a m post := by
  unfold wX3_hasNumbers
  rw [e]
  have e0 : (0 : Int32).toInt = 0 := rfl
  have t := nI_toInt (n := n) (by omega)
  unfold okN at h1 h0
  refine ⟨fun z => h0 ?_, fun z => ⟨fun z2 => h0 ?_, fun z2 => ⟨fun z3 => h0 ?_, fun z3 => ?_⟩⟩⟩
  · rw [fa_lt, e0] at z; omega
  · rw [fa_lt, e0] at z2; omega
  · rw [fa_lt, e0] at z z2; rw [fa_lt, t] at z3; omega
  · rw [fa_lt, e0] at z z2; rw [fa_lt, t] at z3
    rw [fa_lt, sub_n hn (by omega)]
    exact ⟨fun z4 => h0 (by omega), fun z4 => h1 (by omega)⟩
/-- the row of numbers, a stretch of it copied -/
def cpR (g : Nat → Int64) (from_ to_ n : Nat) (x : Nat) : Int64 := if to_ ≤ x ∧ x < to_ + n then g (from_ + (x - to_)) else g x
theorem copy6 {S : Bun} {J : Lon} {s t : Nat} (hs : s < 4) (ht : t < 4) {n p : Nat} (hn : n ≤ 40) (hp : p ≤ 40) (en : S 31 s = nI n) (ep : S 31 t = nI p) {a2 a4 a5 : Int32} {post : Int32 → Bun → Lon → Prop}
    (hm : (S 30 s = 0 ∨ S 30 t = 0) → wX6_finds S J (-1000000006) (fun r x => post r x J))
    (hk : ¬ (S 30 s = 0 ∨ S 30 t = 0) → S 30 s ≠ S 30 t → wX6_finds S J (-1000000003) (fun r x => post r x J))
    (hb : ¬ (S 30 s = 0 ∨ S 30 t = 0) → S 30 s = S 30 t → ¬ (okN n a2 a5 ∧ okN p a4 a5) → wX6_finds S J (-1000000001) (fun r x => post r x J))
    (ho : ¬ (S 30 s = 0 ∨ S 30 t = 0) → S 30 s = S 30 t → okN n a2 a5 → okN p a4 a5 → ∀ u v w : Nat, a2 = nI u → a4 = nI v → a5 = nI w → u + w ≤ n → v + w ≤ p → ∀ J', (∀ x, J' 32 x = cpR (J 32) (40 * s + u) (40 * t + v) w x) → post a5 S J') : wX6_copy S J (nI s) a2 (nI t) a4 a5 post := by
  unfold wX6_copy
  have vs : vp_in (nI s) 4 := vp_in_nI hs (by decide)
  have vt : vp_in (nI t) 4 := vp_in_nI ht (by decide)
  refine isOne6 (fun _ _ _ => wj (br_f (by decide) ?_)) (fun q => absurd rfl (q s hs))
  refine isOne6 (fun _ _ _ => br_f (by decide) ⟨vs, wj ?_⟩) (fun q => absurd rfl (q t ht))
  rw [tn_nI (by omega), tn_nI (by omega), en, ep]
  refine ⟨fun z => hm (Or.inl z), fun z => ⟨vt, fun z2 => hm (Or.inr z2), fun z2 => ⟨vs, vt, fun z3 => wj ?_, fun z3 => hk ?_ z3⟩⟩⟩
  · have good : ¬ (S 30 s = 0 ∨ S 30 t = 0) := fun q => q.elim z z2
    have e0 : (0 : Int32).toInt = 0 := rfl
    have bad := hb good z3
    unfold okN at bad
    refine ⟨fun y => bad ?_, fun y => ⟨fun y2 => bad ?_, fun y2 => ⟨fun y3 => bad ?_, fun y3 => ⟨vs, ?_⟩⟩⟩⟩
    · rw [fa_lt, e0] at y; omega
    · rw [fa_lt, e0] at y2; omega
    · rw [fa_lt, e0] at y3; omega
    · rw [fa_lt, e0] at y y2 y3
      rw [fa_lt, sub_n hn (by omega)]
      refine ⟨fun y4 => bad (by omega), fun y4 => ⟨vt, ?_⟩⟩
      rw [fa_le, sub_n hp (by omega)]
      refine ⟨fun y5 => ?_, fun y5 => bad (by omega)⟩
      obtain ⟨u, hu, eu⟩ := of_toInt (x := a2) (n := 41) (by omega) (by omega) (by decide)
      obtain ⟨v, hv, ev⟩ := of_toInt (x := a4) (n := 41) (by omega) (by omega) (by decide)
      obtain ⟨w, hw, ew⟩ := of_toInt (x := a5) (n := 41) (by omega) (by omega) (by decide)
      have tu := nI_toInt (n := u) (by omega)
      have tv := nI_toInt (n := v) (by omega)
      have tw := nI_toInt (n := w) (by omega)
      have go := ho good z3 ⟨by omega, by omega, by omega⟩ ⟨by omega, by omega, by omega⟩ u v w eu ev ew
      subst eu ev ew
      rw [tu, tw] at y4
      rw [tv, tw] at y5
      have go2 := go (by omega) (by omega)
      refine wl_up2 (fun i x G => x = nI i ∧ G 32 = J 32 ∧ ∀ k, k < i → G 33 k = J 32 (40 * s + u + k)) w ?_ (i := 0) (by omega) ⟨rfl, rfl, fun k hk => absurd hk (by omega)⟩
      rintro i x G K hi ⟨rfl, h32, h33⟩ hK
      refine ⟨fun hc => ?_, fun hc => ?_⟩
      · have hwi := (nI_leI (by omega) (by omega)).mp hc
        obtain rfl : i = w := by omega
        refine wl_up2 (fun j x H => x = nI j ∧ H 33 = G 33 ∧ ∀ k, H 32 k = cpR (J 32) (40 * s + u) (40 * t + v) j k) i ?_ (i := 0) (by omega) ⟨rfl, rfl, fun k => by unfold cpR; rw [if_neg (by omega), h32]⟩
        rintro j x H K2 hj ⟨rfl, g33, g32⟩ hK2
        refine ⟨fun hc2 => ?_, fun hc2 => ?_⟩
        · have hwj := (nI_leI (by omega) (by omega)).mp hc2
          obtain rfl : j = i := by omega
          exact go2 H g32
        · have hlt : j < i := by
            rcases Nat.lt_or_ge j i with h' | h'
            · exact h'
            · exact absurd (nI_le h' (by omega)) hc2
          have ex : (((40 : Int32) * nI t) + nI v) + nI j = nI (40 * t + v + j) := by
            rw [ix40 ht (by omega), nI_add]
          rw [ex, tn_nI (by omega), tn_nI (by omega)]
          refine ⟨vp_in_nI (by omega) (by decide), vp_in_nI (by omega) (by decide), ?_⟩
          rintro _ rfl _ rfl
          refine hK2 _ _ hlt ⟨nI_1 j, ?_, fun k => ?_⟩
          · funext k
            rw [upL_eq, if_neg (by omega), g33]
          · rw [upL_eq, g33, h33 j hlt, g32]
            unfold cpR
            by_cases e : k = 40 * t + v + j
            · rw [if_pos ⟨rfl, e⟩, if_pos (by omega)]
              exact congrArg (J 32) (by omega)
            · rw [if_neg (fun z => e z.2)]
              by_cases e2 : 40 * t + v ≤ k ∧ k < 40 * t + v + j
              · rw [if_pos e2, if_pos (by omega)]
              · rw [if_neg e2, if_neg (by omega)]
      · have hlt : i < w := by
          rcases Nat.lt_or_ge i w with h' | h'
          · exact h'
          · exact absurd (nI_le h' (by omega)) hc
        have ex : (((40 : Int32) * nI s) + nI u) + nI i = nI (40 * s + u + i) := by
          rw [ix40 hs (by omega), nI_add]
        rw [ex, tn_nI (by omega), tn_nI (by omega)]
        refine ⟨vp_in_nI (by omega) (by decide), vp_in_nI (by omega) (by decide), ?_⟩
        rintro _ rfl _ rfl
        refine hK _ _ hlt ⟨nI_1 i, ?_, fun k hk => ?_⟩
        · funext k
          rw [upL_eq, if_neg (by omega), h32]
        · rw [upL_eq]
          by_cases e : k = i
          · rw [if_pos ⟨rfl, e⟩, h32, e]
          · rw [if_neg (fun z => e z.2)]; exact h33 k (by omega)
  · exact fun q => q.elim z z2
theorem lo_copy_ok : lo_copy (InvG FI) := by
  intro C N S J a1 a2 a3 a4 a5 hI
  have hb : ((∀ h : Nat, h < 4 → a1 ≠ nI h) ∨ (∀ h : Nat, h < 4 → a3 ≠ nI h)) → wX5_finding C N (0 : Int32) (fun r C1 => wX6_copy S J a1 a2 a3 a4 a5 (fun r1 S1 J1 => r = r1 ∧ InvG FI C1 N S1 J1)) := by
    intro hbad
    refine find5 (k := 0) (by decide) ?_
    unfold wX6_copy
    refine isOne6 (fun h hh eh => wj (br_f (by decide) ?_)) (fun hno => wj (br_t rfl (both hI (by decide) e_b)))
    refine isOne6 (fun h2 hh2 eh2 => ?_) (fun hno => br_t rfl (both hI (by decide) e_b))
    rcases hbad with z | z
    · exact absurd eh (z h hh)
    · exact absurd eh2 (z h2 hh2)
  unfold wX5_copy
  refine isSheet5 (fun s hs es => wj (br_f (by decide) ?_)) (fun hno => wj (br_t rfl (hb (Or.inl hno))))
  refine isSheet5 (fun t ht et => br_f (by decide) ?_) (fun hno => br_t rfl (hb (Or.inr hno)))
  subst es et
  obtain ⟨c0, c1, ⟨n, hn, en⟩, ok, z0, cN⟩ := hI.2.2.2.2.2.1 s hs
  obtain ⟨d0, d1, ⟨p, hp, ep⟩, ok2, z02, dN⟩ := hI.2.2.2.2.2.1 t ht
  have vs : vp_in (nI s) 4 := vp_in_nI hs (by decide)
  have vt : vp_in (nI t) 4 := vp_in_nI ht (by decide)
  rw [tn_nI (by omega), tn_nI (by omega), c0, d0]
  refine ⟨vs, vt, wj ?_⟩
  have miss : (S 30 s = 0 ∨ S 30 t = 0) → wX5_finding C N (5 : Int32) (fun r C1 => wX6_copy S J (nI s) a2 (nI t) a4 a5 (fun r1 S1 J1 => r = r1 ∧ InvG FI C1 N S1 J1)) := fun q => find5 (k := 5) (by decide) (copy6 hs ht hn hp en ep (fun _ => both hI (by decide) e_m) (fun z => absurd q z) (fun z => absurd q z) (fun z => absurd q z))
  refine ⟨fun z => miss (Or.inl z), fun z => ⟨fun z2 => miss (Or.inr z2), fun z2 => ?_⟩⟩
  have good : ¬ (S 30 s = 0 ∨ S 30 t = 0) := fun q => q.elim z z2
  refine ⟨fun z3 => ?_, fun z3 => find5 (k := 2) (by decide) (copy6 hs ht hn hp en ep (fun q => absurd q good) (fun _ _ => both hI (by decide) e_k) (fun _ q => absurd q z3) (fun _ q => absurd q z3))⟩
  have bad : ¬ (okN n a2 a5 ∧ okN p a4 a5) → wX5_finding C N (0 : Int32) (fun r C1 => wX6_copy S J (nI s) a2 (nI t) a4 a5 (fun r1 S1 J1 => r = r1 ∧ InvG FI C1 N S1 J1)) := fun q => find5 (k := 0) (by decide) (copy6 hs ht hn hp en ep (fun q2 => absurd q2 good) (fun _ q2 => absurd z3 q2) (fun _ _ _ => both hI (by decide) e_b) (fun _ _ q2 q3 => absurd ⟨q2, q3⟩ q))
  refine hasN3 hn (c1.trans en) (fun o1 => wj (br_f (by decide) ?_)) (fun q => wj (br_t rfl (bad (fun z => q z.1))))
  refine hasN3 hp (d1.trans ep) (fun o2 => br_f (by decide) ?_) (fun q => br_t rfl (bad (fun z => q z.2)))
  have e0 : (0 : Int32).toInt = 0 := rfl
  obtain ⟨u, hu, eu⟩ := of_toInt (x := a2) (n := 41) o1.1 (by unfold okN at o1; omega) (by decide)
  obtain ⟨v, hv, ev⟩ := of_toInt (x := a4) (n := 41) o2.1 (by unfold okN at o2; omega) (by decide)
  obtain ⟨w, hw, ew⟩ := of_toInt (x := a5) (n := 41) o1.2.1 (by unfold okN at o1; omega) (by decide)
  have tu := nI_toInt (n := u) (by omega)
  have tv := nI_toInt (n := v) (by omega)
  have tw := nI_toInt (n := w) (by omega)
  have l1 : u + w ≤ n := by
    have := o1.2.2
    rw [eu, ew, tu, tw] at this; omega
  have l2 : v + w ≤ p := by
    have := o2.2.2
    rw [ev, ew, tv, tw] at this; omega
  subst eu ev ew
  rw [tn_nI (by omega), tn_nI (by omega), tn_nI (by omega)]
  refine ⟨nI_pos (by omega), nI_pos (by omega), nI_pos (by omega), by omega, by omega, ?_⟩
  rintro _ rfl
  refine copy6 hs ht hn hp en ep (fun q => absurd q good) (fun _ q => absurd z3 q) (fun _ _ q => absurd ⟨o1, o2⟩ q) (fun _ _ _ _ u2 v2 w2 e1 e2 e3 b1 b2 J' hJ' => ⟨rfl, ?_⟩)
  obtain rfl : u = u2 := (nI_eq (by omega) (by omega)).mp e1
  obtain rfl : v = v2 := (nI_eq (by omega) (by omega)).mp e2
  obtain rfl : w = w2 := (nI_eq (by omega) (by omega)).mp e3
  refine hI.sheets (fun _ _ => rfl) (fun _ _ _ => rfl) (hI.2.2.2.2.2.1.one ht (fun _ _ _ => rfl) (fun j hj e => up_o (by omega)) (fun _ _ => rfl) (fun _ _ => rfl) (fun j e i hi => ?_) ⟨d0, d1, ⟨p, hp, ep⟩, ok2, z02, fun i hi => ?_⟩)
  · rw [hJ']
    unfold cpR
    rw [if_neg (by omega)]
  · rw [up_s, up_s, hJ']
    unfold cpR va_cpy
    by_cases e : v ≤ i ∧ i < v + w
    · rw [if_pos e, if_pos (by omega), cN _ (by omega)]
      exact congrArg (J 32) (by omega)
    · rw [if_neg e, if_neg (by omega)]; exact dN i hi
/-- laying a cell -/
def bitI (c : Nat) : Int32 := (1 : Int32) <<< (nI c &&& 31)
def layA (v : Int64) (k : Int64) (c : Nat) (x : Int32) : Int32 := if v = k then x ||| bitI c else x &&& (bitI c ^^^ (-1))
def inL (v : Int64) : Prop := 0 ≤ v.toInt ∧ v.toInt ≤ 2
def layN (g : Nat → Int64) (st tr : Int32) : Nat → Int32 × Int32 × Nat
  | 0 => (st, tr, 0)
  | i + 1 => if (g i).toInt < 0 ∨ 2 < (g i).toInt then layN g st tr i else (layA (g i) 1 i (layN g st tr i).1, layA (g i) 2 i (layN g st tr i).2.1, (layN g st tr i).2.2 + 1)
theorem bitI_b {c : Nat} (hc : c < 16) {i : Nat} (hi : i < 32) : bt (bitI c) i = decide (i = c) := by
  have : ∀ c, c < 16 → ∀ i, i < 32 → bt (bitI c) i = decide (i = c) := by decide +kernel
  exact this c hc i hi
theorem lay_or {c : Nat} (x : Int32) : (x &&& (bitI c ^^^ (-1))) ||| bitI c = x ||| bitI c := by
  refine b_ext (fun i hi => ?_)
  rw [b_or, b_or, b_and, b_xor, b_m1 i hi]
  cases bt x i <;> cases bt (bitI c) i <;> rfl
theorem lay_0 (x : Int32) : x ||| 0 = x := by
  refine b_ext (fun i hi => ?_)
  rw [b_or, b_0, Bool.or_false]
theorem rng16 {x : Int32} : (0 ≤ x.toInt ∧ x.toInt ≤ 65535) ↔ ∀ i, 16 ≤ i → i < 32 → bt x i = false := by
  constructor
  · rintro ⟨h0, h1⟩ i hi hi2
    obtain ⟨j, hj, e⟩ := of_toInt (x := x) (n := 65536) h0 (by omega) (by decide)
    rw [e, bt_nI hi2]
    exact Nat.testBit_lt_two_pow (Nat.lt_of_lt_of_le hj (Nat.pow_le_pow_right (n := 2) (by decide) hi))
  · intro h
    have e : x = x &&& 65535 := by
      refine b_ext (fun i hi => ?_)
      rw [b_and, b_65535]
      by_cases h16 : i < 16
      · rw [decide_eq_true h16, Bool.and_true]
      · rw [h i (by omega) hi]; rfl
    obtain ⟨j, hj, ej⟩ : ∃ j : Nat, j < 65536 ∧ x = nI j := by
      obtain ⟨j, hj, ej⟩ := earth_n (x ^^^ (-1)) 0
      refine ⟨j, hj, ?_⟩
      rw [← ej]
      unfold earthOf
      rw [lay_0]
      refine b_ext (fun i hi => ?_)
      rw [b_and, b_xor, b_xor, b_m1 i hi, b_65535]
      by_cases h16 : i < 16
      · rw [decide_eq_true h16]; cases bt x i <;> rfl
      · rw [h i (by omega) hi, decide_eq_false h16]; rfl
    have t := nI_toInt (n := j) (by omega)
    rw [ej, t]; omega
theorem lay_rng {c : Nat} (hc : c < 16) {v k : Int64} {x : Int32} (h : 0 ≤ x.toInt ∧ x.toInt ≤ 65535) : 0 ≤ (layA v k c x).toInt ∧ (layA v k c x).toInt ≤ 65535 := by
  rw [rng16] at h ⊢
  intro i hi hi2
  unfold layA
  by_cases e : v = k
  · rw [if_pos e, b_or, h i hi hi2, bitI_b hc hi2, decide_eq_false (by omega)]; rfl
  · rw [if_neg e, b_and, h i hi hi2]; rfl
theorem layN_rng {g : Nat → Int64} {st tr : Int32} (h1 : 0 ≤ st.toInt ∧ st.toInt ≤ 65535) (h2 : 0 ≤ tr.toInt ∧ tr.toInt ≤ 65535) : ∀ i, i ≤ 16 → (0 ≤ (layN g st tr i).1.toInt ∧ (layN g st tr i).1.toInt ≤ 65535) ∧ (0 ≤ (layN g st tr i).2.1.toInt ∧ (layN g st tr i).2.1.toInt ≤ 65535) ∧ (layN g st tr i).2.2 ≤ i
  | 0, _ => ⟨h1, h2, Nat.le_refl 0⟩
  | i + 1, hi => by
    have ih := layN_rng (g := g) h1 h2 i (by omega)
    show _ ∧ _ ∧ _
    unfold layN
    by_cases e : (g i).toInt < 0 ∨ 2 < (g i).toInt
    · rw [if_pos e]; exact ⟨ih.1, ih.2.1, by omega⟩
    · rw [if_neg e]
      exact ⟨lay_rng (by omega) ih.1, lay_rng (by omega) ih.2.1, by have := ih.2.2; show _ + 1 ≤ _; omega⟩
theorem layCell5 {P : Bun} {f c : Nat} {s t : Bool} (hf : f < 6) {post : Bun → Prop} (h : post (up (up P 3 (6 * f) ((P 3 (6 * f) &&& (bitI c ^^^ (-1))) ||| (if s then bitI c else 0))) 3 (6 * f + 1) ((P 3 (6 * f + 1) &&& (bitI c ^^^ (-1))) ||| (if t then bitI c else 0)))) : wX1_layCell P (nI f) (nI c) (bI s) (bI t) post := by
  unfold wX1_layCell
  rintro _ rfl
  have go : ∀ y2 y6 : Int32, y2 = (if s then bitI c else 0) → y6 = (if t then bitI c else 0) → wX1_mark P (nI f) (0 : Int32) (fun r10 => wX1_putMark P (nI f) (0 : Int32) ((r10 &&& (((1 : Int32) <<< (nI c &&& 31)) ^^^ (-1 : Int32))) ||| y2) (fun S14 => wX1_mark S14 (nI f) (1 : Int32) (fun r15 => wX1_putMark S14 (nI f) (1 : Int32) ((r15 &&& (((1 : Int32) <<< (nI c &&& 31)) ^^^ (-1 : Int32))) ||| y6) (fun S19 => post S19)))) := by
    rintro _ _ rfl rfl
    refine mark5 (w := 0) hf (by decide) (put5 (w := 0) hf (by decide) (mark5 (w := 1) hf (by decide) (put5 (w := 1) hf (by decide) ?_)))
    rw [up_ki (by omega)]
    exact h
  refine wj ?_
  cases s
  · refine br_t rfl (wj ?_)
    cases t
    · exact br_t rfl (go _ _ rfl rfl)
    · exact br_f (by decide) (go _ _ rfl rfl)
  · refine br_f (by decide) (wj ?_)
    cases t
    · exact br_t rfl (go _ _ rfl rfl)
    · exact br_f (by decide) (go _ _ rfl rfl)
theorem lg_eq {x y : Int64} : lg_cmp x y = 0 ↔ x = y := by
  unfold lg_cmp
  by_cases h : y < x
  · rw [if_pos h]
    exact ⟨fun z => absurd z (by decide), fun z => absurd h (by rw [z, fa_lt64]; omega)⟩
  · rw [if_neg h]
    by_cases h2 : x = y
    · rw [if_pos h2]; exact ⟨fun _ => h2, fun _ => rfl⟩
    · rw [if_neg h2]; exact ⟨fun z => absurd z (by decide), fun z => absurd z h2⟩
def layP (P : Bun) (f : Nat) (x : Int32 × Int32 × Nat) : Bun := up (up P 3 (6 * f) x.1) 3 (6 * f + 1) x.2.1
def layS (S : Bun) (f : Nat) (x : Int32 × Int32 × Nat) : Bun := up (up S 1 (2 + 6 * f) x.1) 1 (2 + (6 * f + 1)) x.2.1
end
