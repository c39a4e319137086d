/-! THE TEXT: parish -/
section
variable {b : Nat → Nat} {L : Nat}
/-- the model's loop over the items -/
def pLoop (J : Lon) (post : Int32 → Bun → Prop) (st : Int32 × Bun) : Prop := wloop (σ := Int32 × Bun) (fun K21 z => match z with | (x19, S20) => wjoin (σ := Unit) (fun _ => ∀ S30 : Bun, S30 = up S20 0 24 (0 : Int32) → (((S30 0 28) = 0 → post x19 S30) ∧ (¬ ((S30 0 28) = 0) → wloop (σ := Int32 × Bun) (fun K33 z => match z with | (x31, S32) => (((56 : Int32) ≤ x31 → post ((-1 : Int32) - (S32 0 25)) S32) ∧ (¬ ((56 : Int32) ≤ x31) → vp_in x31 56 ∧ vp_in x31 56 ∧ ∀ S39 : Bun, S39 = up S32 1 x31.toNatClampNeg (S32 3 x31.toNatClampNeg) → ∀ x40 : Int32, x40 = x31 + (1 : Int32) → K33 (x40, S39)))) ((0 : Int32), S30)))) (fun J27 => (((S20 0 28) = 0 → (((S20 0 24) ≤ (S20 0 25) → J27 ()) ∧ (¬ ((S20 0 24) ≤ (S20 0 25)) → wX6_byteAt S20 J (S20 0 25) (fun r44 => wjoin (σ := Int32) (fun y46 => wX6_needs S20 J y46 (fun S52 => wX6_item S52 J (fun S56 => ∀ x58 : Int32, x58 = x19 + (1 : Int32) → K21 (x58, S56)))) (fun J47 => ((r44 = (59 : Int32) → J47 (1 : Int32)) ∧ (¬ (r44 = (59 : Int32)) → J47 (0 : Int32)))))))) ∧ (¬ ((S20 0 28) = 0) → J27 ())))) st
/-- the state of the model while the text is read -/
def FrX (S S' : Bun) : Prop := (∀ r, r ≠ 0 → r ≠ 1 → r ≠ 3 → S' r = S r) ∧ (∀ k, k < 56 → S' 3 k = S 1 k) ∧ ∀ k, k ≠ 25 → k ≠ 26 → k ≠ 27 → k ≠ 28 → S' 0 k = S 0 k
theorem FrX.i {S S' S1 : Bun} (h : FrX S S') (h2 : FrI S' S1) : FrX S S1 := ⟨fun r a c d => (h2.1 r a c).trans (h.1 r a c d), fun k hk => by rw [h2.1 3 (by decide) (by decide)]; exact h.2.1 k hk, fun k a b c d => (h2.2 k a b c d).trans (h.2.2 k a b c d)⟩
/-- what is left when the model has ended -/
def EndX (S S' : Bun) : Prop := (∀ r, r ≠ 0 → r ≠ 1 → r ≠ 3 → S' r = S r) ∧ S' 0 24 = 0 ∧ ∀ k, k ≠ 24 → k ≠ 25 → k ≠ 26 → k ≠ 27 → k ≠ 28 → S' 0 k = S 0 k
theorem pFault {S S1 : Bun} {J : Lon} {s : Nat} {c : Int32} (hX : FrX S S1) (hw : Wg s S1) {post : Int32 → Bun → Prop} (h : ∀ S' : Bun, EndX S S' → (∀ k, k < 56 → S' 1 k = S 1 k) → post ((-1 : Int32) - nI s) S') : pLoop J post (c, S1) := by
  intro Q hQ
  refine hQ _ (wj (br_f (by rw [hw.2.1]; decide) ?_))
  rintro _ rfl
  refine br_f (by rw [up_ki (by decide), hw.2.1]; decide) ?_
  refine wl_up2 (fun i x D => x = nI i ∧ (∀ r, r ≠ 1 → D r = up S1 0 24 0 r) ∧ ∀ k, k < i → D 1 k = S 1 k) 56 ?_ (i := 0) (by decide) ⟨rfl, fun _ _ => rfl, fun k hk => absurd hk (by omega)⟩
  rintro i x D KK hi ⟨rfl, k1, k2⟩ hKK
  refine ⟨fun hc => ?_, fun hc => ?_⟩
  · have := (nI_leI (a := 56) (by decide) (by omega)).mp hc
    obtain rfl : i = 56 := by omega
    rw [k1 0 (by decide), up_ki (by decide), hw.1]
    refine h D ⟨fun r a c d => by rw [k1 r c, up_k a]; exact hX.1 r a c d, by rw [k1 0 (by decide), up_ss], fun k a b c d e => by rw [k1 0 (by decide), up_ki a]; exact hX.2.2 k b c d e⟩ k2
  · have hlt : i < 56 := by
      rcases Nat.lt_or_ge i 56 with h' | h'
      · exact h'
      · exact absurd (nI_le (a := 56) h' (by omega)) hc
    have vi : vp_in (nI i) 56 := vp_in_nI hlt (by decide)
    rw [tn_nI (n := i) (by omega)]
    refine ⟨vi, vi, ?_⟩
    rintro _ rfl _ rfl
    refine hKK _ _ hlt ⟨nI_1 i, fun r hr => by rw [up_k hr]; exact k1 r hr, fun k hk => ?_⟩
    rw [up_eq]
    by_cases e : k = i
    · rw [if_pos ⟨rfl, e⟩, k1 3 (by decide), up_k (by decide), e]; exact hX.2.1 i hlt
    · rw [if_neg (fun z => e z.2)]; exact k2 k (by omega)
theorem pEnd {S S1 : Bun} {J : Lon} {s : Nat} {c : Int32} (hX : FrX S S1) (hS : Sy b L s S1) (hL : L ≤ s) {post : Int32 → Bun → Prop} (h : ∀ S' : Bun, EndX S S' → S' 1 = S1 1 → post c S') : pLoop J post (c, S1) := by
  intro Q hQ
  have L120 := hS.1.2.2.1
  have sl := hS.2.1
  refine hQ _ (wj (br_t hS.2.2.2.2 (br_t (by rw [hS.1.1, hS.2.2.1]; exact nI_le hL (by omega)) ?_)))
  rintro _ rfl
  refine br_t (by rw [up_ki (by decide)]; exact hS.2.2.2.2) (h _ ⟨fun r a c d => by rw [up_k a]; exact hX.1 r a c d, up_ss, fun k a b c d e => by rw [up_ki a]; exact hX.2.2 k b c d e⟩ (up_k (by decide)))
theorem pSign {S S1 : Bun} {J : Lon} {s n : Nat} {c : Nat} (hn : n ≤ 6) (en : S1 1 0 = nI n) (hX : FrX S S1) (hS : Sy b L s S1) (hL : s < L) {post : Int32 → Bun → Prop} (h1 : b s = 59 → ∀ S52 : Bun, FrP S1 S52 → Sy b L (nxS b L s) S52 → ∀ A : Bun → Prop, (∀ S17 : Bun, pLoop J post (nI (c + 1), S17) → A S17) → wX6_item S52 J A) (h0 : b s ≠ 59 → ∀ S' : Bun, EndX S S' → (∀ k, k < 56 → S' 1 k = S 1 k) → post ((-1 : Int32) - nI s) S') : pLoop J post (nI c, S1) := by
  intro Q hQ
  have L120 := hS.1.2.2.1
  have hb := hS.1.2.2.2 s (by omega)
  refine hQ _ (wj (br_t hS.2.2.2.2 (br_f (by rw [hS.1.1, hS.2.2.1]; exact nI_ge hL (by omega)) ?_)))
  rw [hS.2.2.1]
  refine byteAt6 hS.1 (by omega) (fun _ => ?_) (fun z => absurd hL (by omega))
  rw [show nI (b s) = (59 : Int32) ↔ b s = 59 from nI_eq (b := 59) (by omega) (by decide)]
  refine wj ⟨fun e => needs_t hS (fun S52 v _ y => h1 e S52 v y _ (fun S17 hl => ?_)), fun e => needs_f hS (fun S52 v w => ?_)⟩
  · rintro _ rfl
    rw [show nI c + (1 : Int32) = nI (c + 1) from nI_1 c]
    exact hl Q hQ
  · refine itemW (n := n) hn (by rw [v.1 1 (by decide)]; exact en) w ?_
    rintro _ rfl
    exact pFault (J := J) (post := post) (hX.i v.i) w (h0 e) Q hQ
theorem kd_0 {s : Nat} : kdN b L s = 0 ↔ L ≤ s := by
  constructor
  · intro h
    rcases Nat.lt_or_ge s L with q | q
    · unfold kdN at h
      rw [if_neg (by omega)] at h
      split at h
      · exact absurd h (by decide)
      · split at h
        · exact absurd h (by decide)
        · split at h <;> exact absurd h (by decide)
    · exact q
  · intro h; exact if_pos h
theorem kd_3 {s : Nat} (hs : s < L) : kdN b L s = 3 ↔ b s = 59 := by
  constructor
  · intro h
    unfold kdN at h
    rw [if_neg (by omega)] at h
    split at h
    · exact absurd h (by decide)
    · split at h
      · exact absurd h (by decide)
      · split at h
        · assumption
        · exact absurd h (by decide)
  · intro h
    have a : isLe b s = false := decide_eq_false (by omega)
    have c : isDg b s = false := decide_eq_false (by omega)
    unfold kdN
    rw [if_neg (by omega), if_neg (by rw [a]; decide), if_neg (by rw [c]; decide), if_pos h]
/-- what the model still has to do -/
def pM (b : Nat → Nat) (L : Nat) (S : Bun) (J : Lon) (post : Int32 → Bun → Prop) (c s : Nat) (P : Bun) : Prop := ∀ S' : Bun, FrX S S' → Sy b L s S' → RP P (S' 1) → ∀ A : Bun → Prop, (∀ S17 : Bun, pLoop J post (nI c, S17) → A S17) → wX6_item S' J A
theorem tell_j {T P0 S : Bun} {J : Lon} (hT : TX b L T) (hW : WF P0) {posT : Int32 → Bun → Bun → Prop}
    (hstart : ∀ post : Int32 → Bun → Prop, pM b L S J post 1 (tS b L 0) P0 → wX6_parish S J post)
    (hok : ∀ (c : Nat) (T1 P1 : Bun), c < 1000 → TX b L T1 → WF P1 → (∀ post : Int32 → Bun → Prop, (∀ S1 : Bun, EndX S S1 → RP P1 (S1 1) → post (nI c) S1) → wX6_parish S J post) → posT (nI c) T1 P1)
    (hbad : ∀ (s : Nat) (T1 P1 : Bun), s ≤ 120 → TX b L T1 → (∀ post : Int32 → Bun → Prop, (∀ S1 : Bun, EndX S S1 → (∀ k, k < 56 → S1 1 k = S 1 k) → post ((-1 : Int32) - nI s) S1) → wX6_parish S J post) → posT ((-1 : Int32) - nI s) T1 P1) : wX4_tellOnto T P0 posT := by
  have L120 := hT.2.2.1
  unfold wX4_tellOnto
  rintro _ rfl
  refine takeToken5 (p := 0) (hT.same (up_ki (by decide)) (up_k (by decide))) (Nat.zero_le _) up_ss (fun T4 hT4 => ?_)
  intro Q hQ
  have core : ∀ (d c s : Nat) (T6 P : Bun), L - s < d → 1 ≤ c → 2 * (c - 1) ≤ s → Tk b L s T6 → WF P → (∀ post : Int32 → Bun → Prop, pM b L S J post c s P → wX6_parish S J post) → Q (nI c, T6, P) := by
    intro d
    induction d with
    | zero => intro c s T6 P h; omega
    | succ d ih =>
      intro c s T6 P hd hc hcs hT6 hWP acc
      have sL := hT6.2.1
      refine hQ _ (wj (br_f (nI_nlt (a := 120) (by omega) (by decide)) ?_))
      refine item_k (J := J) hT6 hWP (fun r T1 P1 hit => ?_)
      rcases hit with ⟨rfl, s', hs', hT1, hW1, h6⟩ | ⟨rfl, s', hT1, h6⟩
      · refine br_f (by decide) ?_
        have sL' := hT1.2.1
        have kl := kd_le b L s'
        rw [hT1.2.2.2.2.1, show nI (kdN b L s') = 0 ↔ kdN b L s' = 0 from nI_eq (b := 0) (by omega) (by decide), kd_0]
        obtain ⟨n1, hn1, en1⟩ := hW1.1
        refine ⟨fun e => hok c T1 P1 (by omega) hT1.1 hW1 (fun post hp => acc post (fun S' hX hS hR A hA => h6 S' hS hR A (fun S1 fr sy rp => hA S1 (pEnd (hX.i fr) sy e (fun S2 ex e1 => hp S2 ex (by rw [e1]; exact rp)))))), fun e => ?_⟩
        have hlt : s' < L := by omega
        rw [show nI (kdN b L s') = (3 : Int32) ↔ kdN b L s' = 3 from nI_eq (b := 3) (by omega) (by decide), kd_3 hlt]
        refine ⟨fun e3 => hT1.to (fun T25 hT25 => ?_), fun e3 => ?_⟩
        · rintro _ rfl
          rw [show nI c + (1 : Int32) = nI (c + 1) from nI_1 c]
          have gt := nx_gt (b := b) hlt
          refine ih (c + 1) (nxS b L s') T25 P1 (by omega) (by omega) (by omega) hT25 hW1 (fun post hm => acc post (fun S' hX hS hR A hA => h6 S' hS hR A (fun S1 fr sy rp => hA S1 (pSign (n := n1) hn1 (rp.1.trans en1) (hX.i fr) sy hlt (fun _ S52 v y A2 hA2 => hm S52 ((hX.i fr).i v.i) y (by rw [v.1 1 (by decide)]; exact rp) A2 hA2) (fun z => absurd e3 z)))))
        · show posT ((-1 : Int32) - (T1 0 3)) T1 P1
          rw [hT1.2.2.1]
          refine hbad s' T1 P1 (by omega) hT1.1 (fun post hp => acc post (fun S' hX hS hR A hA => h6 S' hS hR A (fun S1 fr sy rp => hA S1 (pSign (n := n1) hn1 (rp.1.trans en1) (hX.i fr) sy hlt (fun z => absurd z e3) (fun _ => hp)))))
      · refine br_t rfl ?_
        show posT ((-1 : Int32) - (T1 0 3)) T1 P1
        rw [hT1.2.2.1]
        have sL' := hT1.2.1
        exact hbad s' T1 P1 (by omega) hT1.1 (fun post hp => acc post (fun S' hX hS hR A hA => h6 S' hS hR A (fun S1 fr wg => hA S1 (pFault (hX.i fr) wg hp))))
  exact core (L + 1) 1 (tS b L 0) T4 P0 (by omega) (Nat.le_refl 1) (Nat.zero_le _) hT4 hW hstart
theorem pStart {S P : Bun} {J : Lon} (hM : MX b L S) (hR : RP P (S 1)) {post : Int32 → Bun → Prop} (h : pM b L S J post 1 (tS b L 0) P) : wX6_parish S J post := by
  unfold wX6_parish
  refine wl_up2 (fun i x D => x = nI i ∧ (∀ r, r ≠ 3 → D r = S r) ∧ ∀ k, k < i → D 3 k = S 1 k) 56 ?_ (i := 0) (by decide) ⟨rfl, fun _ _ => rfl, fun k hk => absurd hk (by omega)⟩
  rintro i x D KK hi ⟨rfl, k1, k2⟩ hKK
  refine ⟨fun hc => ?_, fun hc => ?_⟩
  · have := (nI_leI (a := 56) (by decide) (by omega)).mp hc
    obtain rfl : i = 56 := by omega
    rintro _ rfl _ rfl
    have fx : FrX S (up (up D 0 26 0) 0 28 0) := ⟨fun r a c d => by rw [up_k a, up_k a]; exact k1 r d, fun k hk => by rw [up_k (by decide), up_k (by decide)]; exact k2 k hk, fun k a b c d => by rw [up_ki d, up_ki b, k1 0 (by decide)]⟩
    have m10 : MX b L (up (up D 0 26 0) 0 28 0) := by
      unfold MX
      rw [up_ki (by decide), up_ki (by decide), up_k (by decide), up_k (by decide), k1 0 (by decide), k1 24 (by decide)]
      exact hM
    refine token6 (p := 0) m10 (Nat.zero_le _) (by rw [up_ki (by decide), up_ss]; rfl) up_ss (fun S13 v _ y => ?_)
    refine h S13 (fx.i v.i) y (by rw [v.1 1 (by decide), up_k (by decide), up_k (by decide), k1 1 (by decide)]; exact hR) _ (fun S17 hl => ?_)
    exact hl
  · have hlt : i < 56 := by
      rcases Nat.lt_or_ge i 56 with h' | h'
      · exact h'
      · exact absurd (nI_le (a := 56) h' (by omega)) hc
    have vi : vp_in (nI i) 56 := vp_in_nI hlt (by decide)
    rw [tn_nI (n := i) (by omega)]
    refine ⟨vi, vi, ?_⟩
    rintro _ rfl _ rfl
    refine hKK _ _ hlt ⟨nI_1 i, fun r hr => by rw [up_k hr]; exact k1 r hr, fun k hk => ?_⟩
    rw [up_eq]
    by_cases e : k = i
    · rw [if_pos ⟨rfl, e⟩, k1 1 (by decide), e]
    · rw [if_neg (fun z => e z.2)]; exact k2 k (by omega)
theorem lo_parish_ok {FI : Bun → Prop} : lo_parish (InvG FI) := by
  intro C N S J hI
  obtain ⟨L, hL, t1, t2, t3⟩ := hI.2.2.2.2.1
  have bv : ∀ k, k < 120 → C 4 1 k = nI (C 4 1 k).toNatClampNeg ∧ (C 4 1 k).toNatClampNeg ≤ 255 := by
    intro k hk
    obtain ⟨_, h0, h1⟩ := t3 k hk
    obtain ⟨a, ha, ea⟩ := of_toInt (x := C 4 1 k) (n := 256) h0 (by omega) (by decide)
    rw [ea, tn_nI (by omega)]
    exact ⟨rfl, by omega⟩
  have hT : TX (fun k => (C 4 1 k).toNatClampNeg) L (C 4) := ⟨t1, fun k hk => (bv k hk).1, hL, fun k hk => (bv k hk).2⟩
  have hM : MX (fun k => (C 4 1 k).toNatClampNeg) L S := ⟨t2, fun k hk => by rw [← (t3 k hk).1]; exact (bv k hk).1, hL, fun k hk => (bv k hk).2⟩
  unfold wX5_parish
  refine take5 (fun D hD => ?_)
  rintro _ rfl
  have c4 : va_up (va_up C 3 D) 1 (C 1) 4 = C 4 := by rw [up_o (by decide), up_o (by decide)]
  have c3 : va_up (va_up C 3 D) 1 (C 1) 3 = D := by rw [up_o (by decide), up_s]
  rw [c4, c3]
  have hWD := hI.1.1.copy hD
  have hRD : RP D (S 1) := hI.1.2.copy hD (fun k hk => rfl)
  -- the text is wiped
  have rt : ∀ (T1 S1 : Bun), TX (fun k => (C 4 1 k).toNatClampNeg) L T1 → EndX S S1 → RT (up T1 0 1 0) S1 := by
    intro T1 S1 x1 x2
    refine ⟨0, by decide, up_ss, x2.2.1, fun k hk => ?_⟩
    have e : T1 1 k = C 4 1 k := (x1.2.1 k hk).trans (bv k hk).1.symm
    rw [up_k (by decide), x2.1 24 (by decide) (by decide) (by decide), e]
    exact t3 k hk
  have inv : ∀ (P1 T1 D1 S1 : Bun), TX (fun k => (C 4 1 k).toNatClampNeg) L T1 → EndX S S1 → WF P1 → RP P1 (S1 1) → ∀ C' : Nat → Bun, C' 1 = P1 → C' 4 = up T1 0 1 0 → (∀ x, x ≠ 1 → x ≠ 3 → x ≠ 4 → C' x = C x) → InvG FI C' N S1 J := by
    intro P1 T1 D1 S1 x1 x2 x3 x4 C' y1 y2 y3
    refine hI.of ⟨by rw [y1]; exact x3, by rw [y1]; exact x4⟩ ?_ ?_ ?_ (by rw [y2]; exact rt T1 S1 x1 x2) ?_ (fun x hx => y3 x (isF_ne hx).2.1 (isF_ne hx).2.2.2.1 (isF_ne hx).2.2.2.2.1)
    · rw [y3 2 (by decide) (by decide) (by decide), x2.1 2 (by decide) (by decide) (by decide)]; exact hI.2.1
    · rw [y3 0 (by decide) (by decide) (by decide), x2.2.2 4 (by decide) (by decide) (by decide) (by decide) (by decide)]; exact hI.2.2.1
    · rw [y3 0 (by decide) (by decide) (by decide), x2.1 4 (by decide) (by decide) (by decide)]; exact hI.2.2.2.1
    · exact hI.2.2.2.2.2.1.same (fun k hk => y3 _ (by omega) (by omega) (by omega)) (fun _ _ => rfl) (x2.1 30 (by decide) (by decide) (by decide)) (x2.1 31 (by decide) (by decide) (by decide)) rfl
  refine tell_j (b := fun k => (C 4 1 k).toNatClampNeg) (L := L) (S := S) (J := J) hT hWD (fun post hm => pStart hM hRD hm) (fun c T1 P1 hc x1 x3 hm => ?_) (fun s T1 P1 hs x1 hm => ?_)
  · rintro _ rfl _ rfl
    refine br_f (nI_pos (by omega)) (take5 (fun D2 hD2 => ?_))
    rintro _ rfl
    refine hm _ (fun S1 x2 x4 => ⟨rfl, ?_⟩)
    have c11 : va_up (va_up (va_up (va_up (va_up C 3 D) 1 (C 1)) 4 T1) 3 P1) 4 (up (va_up (va_up (va_up (va_up C 3 D) 1 (C 1)) 4 T1) 3 P1 4) 0 1 0) 3 = P1 := by rw [up_o (by decide), up_s]
    rw [c11] at hD2
    refine inv D2 T1 D S1 x1 x2 (x3.copy hD2) (x4.copy hD2 (fun k hk => rfl)) _ ?_ ?_ (fun x a c d => ?_)
    · rw [up_o (by decide), up_s]
    · rw [up_o (by decide), up_o (by decide), up_s, up_o (by decide), up_s]
    · rw [up_o c, up_o a, up_o d, up_o c, up_o d, up_o a, up_o c]
  · rintro _ rfl _ rfl
    have neg : (-1 : Int32) - nI s < 0 := (show ∀ s, s ≤ 120 → (-1 : Int32) - nI s < 0 by decide +kernel) s hs
    refine br_t neg (hm _ (fun S1 x2 x4 => ⟨rfl, ?_⟩))
    refine inv (C 1) T1 D S1 x1 x2 hI.1.1 (hI.1.2.copy ⟨rfl, rfl, fun _ _ => rfl, fun _ _ => rfl, fun _ _ => rfl, fun _ _ => rfl⟩ x4) _ ?_ ?_ (fun x a c d => ?_)
    · rw [up_o (by decide), up_o (by decide), up_o (by decide), up_s]
    · rw [up_s, up_o (by decide), up_s]
    · rw [up_o d, up_o c, up_o d, up_o a, up_o c]
end
