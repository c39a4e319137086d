/-! lays -/
section
variable {FI : Bun → Prop} {C C1 : Nat → Bun} {N N1 : Nat → Lon} {S S1 : Bun} {J J1 : Lon}
theorem layP_0 (P : Bun) (f n : Nat) : layP P f (P 3 (6 * f), P 3 (6 * f + 1), n) = P := by
  unfold layP
  rw [up_same (S := P) rfl, up_same rfl]
theorem layP_2 (P : Bun) (f : Nat) (x : Int32 × Int32 × Nat) (a b : Int32) (n : Nat) : up (up (layP P f x) 3 (6 * f) a) 3 (6 * f + 1) b = layP P f (a, b, n) := by
  unfold layP
  funext k i
  rw [up_eq, up_eq, up_eq, up_eq, up_eq, up_eq]
  by_cases h1 : k = 3 ∧ i = 6 * f + 1
  · rw [if_pos h1, if_pos h1]
  · rw [if_neg h1, if_neg h1]
    by_cases h2 : k = 3 ∧ i = 6 * f
    · rw [if_pos h2, if_pos h2, if_neg h1]
    · rw [if_neg h2, if_neg h2, if_neg h1, if_neg h2]
theorem layS_0 (S : Bun) (f n : Nat) : layS S f (S 1 (2 + 6 * f), S 1 (2 + (6 * f + 1)), n) = S := by
  unfold layS
  rw [up_same (S := S) rfl, up_same rfl]
theorem layS_2 (S : Bun) (f : Nat) (x : Int32 × Int32 × Nat) (a b : Int32) (n : Nat) : up (up (layS S f x) 1 (2 + 6 * f) a) 1 (2 + (6 * f + 1)) b = layS S f (a, b, n) := by
  unfold layS
  funext k i
  rw [up_eq, up_eq, up_eq, up_eq, up_eq, up_eq]
  by_cases h1 : k = 1 ∧ i = 2 + (6 * f + 1)
  · rw [if_pos h1, if_pos h1]
  · rw [if_neg h1, if_neg h1]
    by_cases h2 : k = 1 ∧ i = 2 + 6 * f
    · rw [if_pos h2, if_pos h2, if_neg h1]
    · rw [if_neg h2, if_neg h2, if_neg h1, if_neg h2]
theorem layA_t {v k : Int64} {c : Nat} {x : Int32} (h : v = k) : layA v k c x = x ||| bitI c := if_pos h
theorem layA_f {v k : Int64} {c : Nat} {x : Int32} (h : ¬ v = k) : layA v k c x = x &&& (bitI c ^^^ (-1)) := if_neg h
theorem layA_5 {v k : Int64} {c : Nat} {x : Int32} {s : Bool} (h : s = true ↔ v = k) : (x &&& (bitI c ^^^ (-1))) ||| (if s then bitI c else 0) = layA v k c x := by
  cases s with
  | true => rw [layA_t (h.mp rfl)]; exact lay_or x
  | false => rw [layA_f (fun z => absurd (h.mpr z) (by decide))]; exact lay_0 _
theorem lays5 {C : Nat → Bun} {N : Nat → Lon} {h f n : Nat} (hh : h < 4) (hf : f < 6) (hn : n ≤ 40) (en : C (h + 7) 0 1 = nI n) {g : Nat → Int64} (eg : ∀ i, i < 40 → N (h + 7) 3 i = g i) {post : Int32 → (Nat → Bun) → Prop} (hp : post (nI (layN g (C 1 3 (6 * f)) (C 1 3 (6 * f + 1)) (min 16 n)).2.2) (va_up C 1 (layP (C 1) f (layN g (C 1 3 (6 * f)) (C 1 3 (6 * f + 1)) (min 16 n))))) :
    wloop (σ := Int32 × Int32 × (Nat → Bun)) (fun K9 z => match z with | (x6, x7, C8) => (((16 : Int32) ≤ x7 → post x6 C8) ∧ (¬ ((16 : Int32) ≤ x7) → (((C8 (h + 7) 0 1) ≤ x7 → post x6 C8) ∧ (¬ ((C8 (h + 7) 0 1) ≤ x7) → vp_in x7 40 ∧ ∀ x15 : Int64, x15 = N (h + 7) 3 x7.toNatClampNeg → (((lg_cmp x15 (0 : Int64)) < 0 → ∀ x16 : Int32, x16 = x7 + (1 : Int32) → K9 (x6, x16, C8)) ∧ (¬ ((lg_cmp x15 (0 : Int64)) < 0) → ((0 < (lg_cmp x15 (2 : Int64)) → ∀ x18 : Int32, x18 = x7 + (1 : Int32) → K9 (x6, x18, C8)) ∧ (¬ (0 < (lg_cmp x15 (2 : Int64))) → wjoin (σ := Int32) (fun y20 => wjoin (σ := Int32) (fun y24 => wX1_layCell (C8 1) (nI f) x7 y20 y24 (fun S31 => ∀ C30 : Nat → Bun, C30 = va_up C8 1 S31 → ∀ x32 : Int32, x32 = x6 + (1 : Int32) → ∀ x33 : Int32, x33 = x7 + (1 : Int32) → K9 (x32, x33, C30))) (fun J25 => (((lg_cmp x15 (2 : Int64)) = 0 → J25 (1 : Int32)) ∧ (¬ ((lg_cmp x15 (2 : Int64)) = 0) → J25 (0 : Int32))))) (fun J21 => (((lg_cmp x15 (1 : Int64)) = 0 → J21 (1 : Int32)) ∧ (¬ ((lg_cmp x15 (1 : Int64)) = 0) → J21 (0 : Int32))))))))))))) ((0 : Int32), (0 : Int32), C) := by
  refine wl_up3 (fun i x y D => x = nI (layN g (C 1 3 (6 * f)) (C 1 3 (6 * f + 1)) i).2.2 ∧ y = nI i ∧ D = va_up C 1 (layP (C 1) f (layN g (C 1 3 (6 * f)) (C 1 3 (6 * f + 1)) i))) (min 16 n) ?_ (i := 0) (by omega) ⟨rfl, rfl, by show C = va_up C 1 (layP (C 1) f (C 1 3 (6 * f), C 1 3 (6 * f + 1), 0)); rw [layP_0, va_same]⟩
  rintro i x y D K hi ⟨rfl, rfl, rfl⟩ hK
  have hi40 : i < 2 ^ 31 := by omega
  refine ⟨fun hc => ?_, fun hc => ⟨fun hc2 => ?_, fun hc2 => ?_⟩⟩
  · have := (nI_leI (a := 16) (by decide) (by omega)).mp hc
    obtain rfl : i = min 16 n := by omega
    exact hp
  · rw [up_o (by omega), en] at hc2
    have := (nI_leI (by omega) (by omega)).mp hc2
    obtain rfl : i = min 16 n := by omega
    exact hp
  · rw [up_o (by omega), en] at hc2
    have hlt : i < 16 := by
      rcases Nat.lt_or_ge i 16 with h' | h'
      · exact h'
      · exact absurd (nI_le (a := 16) h' (by omega)) hc
    have hlt2 : i < n := by
      rcases Nat.lt_or_ge i n with h' | h'
      · exact h'
      · exact absurd (nI_le h' (by omega)) hc2
    have hm : i < min 16 n := by omega
    refine ⟨vp_in_nI (by omega) (by decide), ?_⟩
    rw [tn_nI hi40, eg i (by omega)]
    rintro _ rfl
    rw [lg_lt, lg_gt, lg_eq, lg_eq, fa_lt64, fa_lt64]
    have e0 : (0 : Int64).toInt = 0 := rfl
    have e2 : (2 : Int64).toInt = 2 := rfl
    rw [e0, e2]
    refine ⟨fun z => ?_, fun z => ⟨fun z2 => ?_, fun z2 => ?_⟩⟩
    · rintro _ rfl
      refine hK _ _ _ hm ⟨?_, nI_1 i, ?_⟩
      · show _ = nI (layN g _ _ (i + 1)).2.2
        rw [layN, if_pos (Or.inl z)]
      · show _ = va_up C 1 (layP (C 1) f (layN g _ _ (i + 1)))
        rw [layN, if_pos (Or.inl z)]
    · rintro _ rfl
      refine hK _ _ _ hm ⟨?_, nI_1 i, ?_⟩
      · show _ = nI (layN g _ _ (i + 1)).2.2
        rw [layN, if_pos (Or.inr z2)]
      · show _ = va_up C 1 (layP (C 1) f (layN g _ _ (i + 1)))
        rw [layN, if_pos (Or.inr z2)]
    · refine wj_b (decide (g i = 1)) decide_eq_true_iff (wj_b (decide (g i = 2)) decide_eq_true_iff ?_)
      refine layCell5 hf ?_
      rintro _ rfl _ rfl _ rfl
      have q : ¬ ((g i).toInt < 0 ∨ 2 < (g i).toInt) := by omega
      refine hK _ _ _ hm ⟨?_, nI_1 i, ?_⟩
      · show _ = nI (layN g _ _ (i + 1)).2.2
        rw [layN, if_neg q]
        exact nI_1 _
      · show _ = va_up C 1 (layP (C 1) f (layN g _ _ (i + 1)))
        rw [layN, if_neg q, va_twice, up_s]
        refine congrArg (va_up C 1) ?_
        rw [layA_5 (k := 1) decide_eq_true_iff, layA_5 (k := 2) decide_eq_true_iff]
        have m0 : layP (C 1) f (layN g (C 1 3 (6 * f)) (C 1 3 (6 * f + 1)) i) 3 (6 * f) = (layN g (C 1 3 (6 * f)) (C 1 3 (6 * f + 1)) i).1 := by
          unfold layP; rw [up_ki (by omega), up_ss]
        have m1 : layP (C 1) f (layN g (C 1 3 (6 * f)) (C 1 3 (6 * f + 1)) i) 3 (6 * f + 1) = (layN g (C 1 3 (6 * f)) (C 1 3 (6 * f + 1)) i).2.1 := by
          unfold layP; rw [up_ss]
        rw [m0, m1]
        exact layP_2 _ _ _ _ _ _
theorem lays6 {S : Bun} {J : Lon} {h f n : Nat} (hh : h < 4) (hf : f < 6) (hn : n ≤ 40) (en : S 31 h = nI n) {g : Nat → Int64} (eg : ∀ i, i < 40 → J 32 (40 * h + i) = g i) {post : Int32 → Bun → Prop} (hp : post (nI (layN g (S 1 (2 + 6 * f)) (S 1 (2 + (6 * f + 1))) (min 16 n)).2.2) (layS S f (layN g (S 1 (2 + 6 * f)) (S 1 (2 + (6 * f + 1))) (min 16 n)))) :
    wloop (σ := Int32 × Int32 × Bun) (fun K9 z => match z with | (x6, x7, S8) => vp_in (nI h) 4 ∧ (((S8 31 h) ≤ x7 → post x6 S8) ∧ (¬ ((S8 31 h) ≤ x7) → (((16 : Int32) ≤ x7 → post x6 S8) ∧ (¬ ((16 : Int32) ≤ x7) → vp_in (((40 : Int32) * nI h) + x7) 160 ∧ ∀ x15 : Int64, x15 = J 32 (((40 : Int32) * nI h) + x7).toNatClampNeg → wX6_in x15 (0 : Int64) (2 : Int64) (fun r16 => ((r16 = 0 → ∀ x18 : Int32, x18 = x7 + (1 : Int32) → K9 (x6, x18, S8)) ∧ (¬ (r16 = 0) → wjoin (σ := Int32) (fun y20 => vp_in ((((2 : Int32) + ((6 : Int32) * nI f))) + (0 : Int32)) 56 ∧ ∀ S24 : Bun, S24 = up S8 1 ((((2 : Int32) + ((6 : Int32) * nI f))) + (0 : Int32)).toNatClampNeg y20 → wjoin (σ := Int32) (fun y25 => vp_in ((((2 : Int32) + ((6 : Int32) * nI f))) + (1 : Int32)) 56 ∧ ∀ S29 : Bun, S29 = up S24 1 ((((2 : Int32) + ((6 : Int32) * nI f))) + (1 : Int32)).toNatClampNeg y25 → ∀ x30 : Int32, x30 = x6 + (1 : Int32) → ∀ x31 : Int32, x31 = x7 + (1 : Int32) → K9 (x30, x31, S29)) (fun J26 => (((lg_cmp x15 (2 : Int64)) = 0 → vp_in ((((2 : Int32) + ((6 : Int32) * nI f))) + (1 : Int32)) 56 ∧ J26 ((S24 1 ((((2 : Int32) + ((6 : Int32) * nI f))) + (1 : Int32)).toNatClampNeg) ||| ((1 : Int32) <<< (x7 &&& 31)))) ∧ (¬ ((lg_cmp x15 (2 : Int64)) = 0) → vp_in ((((2 : Int32) + ((6 : Int32) * nI f))) + (1 : Int32)) 56 ∧ J26 ((S24 1 ((((2 : Int32) + ((6 : Int32) * nI f))) + (1 : Int32)).toNatClampNeg) &&& (((1 : Int32) <<< (x7 &&& 31)) ^^^ (-1 : Int32))))))) (fun J21 => (((lg_cmp x15 (1 : Int64)) = 0 → vp_in ((((2 : Int32) + ((6 : Int32) * nI f))) + (0 : Int32)) 56 ∧ J21 ((S8 1 ((((2 : Int32) + ((6 : Int32) * nI f))) + (0 : Int32)).toNatClampNeg) ||| ((1 : Int32) <<< (x7 &&& 31)))) ∧ (¬ ((lg_cmp x15 (1 : Int64)) = 0) → vp_in ((((2 : Int32) + ((6 : Int32) * nI f))) + (0 : Int32)) 56 ∧ J21 ((S8 1 ((((2 : Int32) + ((6 : Int32) * nI f))) + (0 : Int32)).toNatClampNeg) &&& (((1 : Int32) <<< (x7 &&& 31)) ^^^ (-1 : Int32)))))))))))))) ((0 : Int32), (0 : Int32), S) := by
  have x0 : (2 : Int32) + 6 * nI f + 0 = nI (2 + 6 * f) := ix_s (w := 0) hf (by decide)
  have x1 : (2 : Int32) + 6 * nI f + 1 = nI (2 + (6 * f + 1)) := ix_s (w := 1) hf (by decide)
  rw [x0, x1, tn_nI (by omega), tn_nI (by omega)]
  have v0 : vp_in (nI (2 + 6 * f)) 56 := vp_in_nI (by omega) (by decide)
  have v1 : vp_in (nI (2 + (6 * f + 1))) 56 := vp_in_nI (by omega) (by decide)
  refine wl_up3 (fun i x y D => x = nI (layN g (S 1 (2 + 6 * f)) (S 1 (2 + (6 * f + 1))) i).2.2 ∧ y = nI i ∧ D = layS S f (layN g (S 1 (2 + 6 * f)) (S 1 (2 + (6 * f + 1))) i)) (min 16 n) ?_ (i := 0) (by omega) ⟨rfl, rfl, (layS_0 S f 0).symm⟩
  rintro i x y D K hi ⟨rfl, rfl, rfl⟩ hK
  have hi40 : i < 2 ^ 31 := by omega
  have s31 : layS S f (layN g (S 1 (2 + 6 * f)) (S 1 (2 + (6 * f + 1))) i) 31 = S 31 := by
    unfold layS; rw [up_k (by decide), up_k (by decide)]
  refine ⟨vp_in_nI hh (by decide), fun hc2 => ?_, fun hc2 => ⟨fun hc => ?_, fun hc => ?_⟩⟩
  · rw [s31, en] at hc2
    have := (nI_leI (by omega) (by omega)).mp hc2
    obtain rfl : i = min 16 n := by omega
    exact hp
  · have := (nI_leI (a := 16) (by decide) (by omega)).mp hc
    obtain rfl : i = min 16 n := by omega
    exact hp
  · rw [s31, en] at hc2
    have hlt : i < 16 := by
      rcases Nat.lt_or_ge i 16 with h' | h'
      · exact h'
      · exact absurd (nI_le (a := 16) h' (by omega)) hc
    have hlt2 : i < n := by
      rcases Nat.lt_or_ge i n with h' | h'
      · exact h'
      · exact absurd (nI_le h' (by omega)) hc2
    have hm : i < min 16 n := by omega
    rw [ix40 hh (by omega), tn_nI (by omega), eg i (by omega)]
    refine ⟨vp_in_nI (by omega) (by decide), ?_⟩
    rintro _ rfl
    have e0 : (0 : Int64).toInt = 0 := rfl
    have e2 : (2 : Int64).toInt = 2 := rfl
    refine in_l (fun z1 z2 => br_f (by decide) ?_) (fun z => br_t rfl ?_)
    · rw [e0] at z1; rw [e2] at z2
      have q : ¬ ((g i).toInt < 0 ∨ 2 < (g i).toInt) := by omega
      rw [lg_eq, lg_eq]
      have m0 : layS S f (layN g (S 1 (2 + 6 * f)) (S 1 (2 + (6 * f + 1))) i) 1 (2 + 6 * f) = (layN g (S 1 (2 + 6 * f)) (S 1 (2 + (6 * f + 1))) i).1 := by
        unfold layS; rw [up_ki (by omega), up_ss]
      have m1 : ∀ y, up (layS S f (layN g (S 1 (2 + 6 * f)) (S 1 (2 + (6 * f + 1))) i)) 1 (2 + 6 * f) y 1 (2 + (6 * f + 1)) = (layN g (S 1 (2 + 6 * f)) (S 1 (2 + (6 * f + 1))) i).2.1 := by
        intro y
        rw [up_ki (by omega)]
        unfold layS; rw [up_ss]
      have fin : ∀ y20 y25 : Int32, y20 = layA (g i) 1 i (layN g (S 1 (2 + 6 * f)) (S 1 (2 + (6 * f + 1))) i).1 → y25 = layA (g i) 2 i (layN g (S 1 (2 + 6 * f)) (S 1 (2 + (6 * f + 1))) i).2.1 → K (nI (layN g (S 1 (2 + 6 * f)) (S 1 (2 + (6 * f + 1))) i).2.2 + 1, nI i + 1, up (up (layS S f (layN g (S 1 (2 + 6 * f)) (S 1 (2 + (6 * f + 1))) i)) 1 (2 + 6 * f) y20) 1 (2 + (6 * f + 1)) y25) := by
        rintro _ _ rfl rfl
        refine hK _ _ _ hm ⟨?_, nI_1 i, ?_⟩
        · rw [layN, if_neg q]
          exact nI_1 _
        · rw [layN, if_neg q]
          exact layS_2 _ _ _ _ _ _
      have two : ∀ y20 : Int32, y20 = layA (g i) 1 i (layN g (S 1 (2 + 6 * f)) (S 1 (2 + (6 * f + 1))) i).1 → vp_in (nI (2 + 6 * f)) 56 ∧ ∀ S24 : Bun, S24 = up (layS S f (layN g (S 1 (2 + 6 * f)) (S 1 (2 + (6 * f + 1))) i)) 1 (2 + 6 * f) y20 → wjoin (σ := Int32) (fun y25 => vp_in (nI (2 + (6 * f + 1))) 56 ∧ ∀ S29 : Bun, S29 = up S24 1 (2 + (6 * f + 1)) y25 → ∀ x30 : Int32, x30 = nI (layN g (S 1 (2 + 6 * f)) (S 1 (2 + (6 * f + 1))) i).2.2 + (1 : Int32) → ∀ x31 : Int32, x31 = nI i + (1 : Int32) → K (x30, x31, S29)) (fun J26 => ((g i = (2 : Int64) → vp_in (nI (2 + (6 * f + 1))) 56 ∧ J26 ((S24 1 (2 + (6 * f + 1))) ||| ((1 : Int32) <<< (nI i &&& 31)))) ∧ (¬ (g i = (2 : Int64)) → vp_in (nI (2 + (6 * f + 1))) 56 ∧ J26 ((S24 1 (2 + (6 * f + 1))) &&& (((1 : Int32) <<< (nI i &&& 31)) ^^^ (-1 : Int32)))))) := by
        intro y20 hy
        refine ⟨v0, ?_⟩
        rintro _ rfl
        rw [m1]
        refine wj ⟨fun z => ⟨v1, v1, ?_⟩, fun z => ⟨v1, v1, ?_⟩⟩
        · rintro _ rfl _ rfl _ rfl
          exact fin _ _ hy (layA_t z).symm
        · rintro _ rfl _ rfl _ rfl
          exact fin _ _ hy (layA_f z).symm
      rw [m0]
      exact wj ⟨fun z => ⟨v0, two _ (layA_t z).symm⟩, fun z => ⟨v0, two _ (layA_f z).symm⟩⟩
    · rw [e0, e2] at z
      have q : (g i).toInt < 0 ∨ 2 < (g i).toInt := by omega
      rintro _ rfl
      refine hK _ _ _ hm ⟨?_, nI_1 i, ?_⟩
      · rw [layN, if_pos q]
      · rw [layN, if_pos q]
theorem lo_lays_ok : lo_lays (InvG FI) := by
  intro C N S J a1 a2 hI
  obtain ⟨n, hn, en⟩ := hI.1.1.1
  have es : S 1 0 = nI n := hI.1.2.1.trans en
  unfold wX5_lays
  refine isSheet5 (fun h hh eh => br_f (by decide) ?_) (fun hno => br_t rfl (find5 (k := 0) (by decide) ?_))
  · subst eh
    obtain ⟨c0, c1, ⟨p, hp, ep⟩, ok, z0, cN⟩ := hI.2.2.2.2.2.1 h hh
    have vh : vp_in (nI h) 4 := vp_in_nI hh (by decide)
    rw [tn_nI (by omega), c0]
    refine ⟨vh, fun hz => find5 (k := 5) (by decide) ?_, fun hz => ?_⟩
    · unfold wX6_lays
      refine wrong6 (fun q => absurd rfl (q h hh)) (fun h2 hh2 e2 q => br_f (by decide) (both hI (by decide) e_m)) (fun h2 hh2 e2 q => ?_)
      obtain rfl : h = h2 := (nI_eq (by omega) (by omega)).mp e2
      exact absurd hz q
    · refine hasF5 hn en (fun f hf ef => br_f (by decide) ?_) (fun hno => br_t rfl (find5 (k := 0) (by decide) ?_))
      · subst ef
        have hf6 : f < 6 := by omega
        have r3 := hI.1.2.2.2.1
        have w3 := (hI.1.1.2.2.1 f hf6).1
        have s0 : S 1 (2 + 6 * f) = C 1 3 (6 * f) := r3 _ (by omega)
        have s1 : S 1 (2 + (6 * f + 1)) = C 1 3 (6 * f + 1) := r3 _ (by omega)
        refine lays5 (post := fun r C1 => wX6_lays S J (nI h) (nI f) (fun r1 S1 => r = r1 ∧ InvG FI C1 N S1 J)) hh hf6 hp (c1.trans ep) (g := fun i => J 32 (40 * h + i)) (fun i hi => cN i hi) ?_
        unfold wX6_lays
        refine wrong6 (fun q => absurd rfl (q h hh)) (fun h2 hh2 e2 q => ?_) (fun h2 hh2 e2 q => br_t rfl ?_)
        · obtain rfl : h = h2 := (nI_eq (by omega) (by omega)).mp e2
          exact absurd q hz
        refine isF6' hn es (fun _ _ _ => br_f (by decide) ?_) (fun hb => absurd rfl (hb f hf))
        rintro _ rfl
        rw [tn_nI (by omega)]
        refine lays6 (post := fun r1 S1 => nI (layN (fun i => J 32 (40 * h + i)) (C 1 3 (6 * f)) (C 1 3 (6 * f + 1)) (min 16 p)).2.2 = r1 ∧ InvG FI (va_up C 1 (layP (C 1) f (layN (fun i => J 32 (40 * h + i)) (C 1 3 (6 * f)) (C 1 3 (6 * f + 1)) (min 16 p)))) N S1 J) hh hf6 hp ep (g := fun i => J 32 (40 * h + i)) (fun i hi => rfl) ?_
        rw [s0, s1]
        refine ⟨rfl, ?_⟩
        have lr := layN_rng (g := fun i => J 32 (40 * h + i)) (w3 0 (by decide)) (w3 1 (by decide)) (min 16 p) (by omega)
        generalize layN (fun i => J 32 (40 * h + i)) (C 1 3 (6 * f)) (C 1 3 (6 * f + 1)) (min 16 p) = x at lr
        refine hI.now (fun r hr => by unfold layS; rw [up_k hr, up_k hr]) ?_ ?_
        · exact (hI.1.1.mark (w := 0) hf6 (by decide) ⟨by rw [(okM_a 0 (by decide)).1]; exact lr.1.1, by rw [(okM_a 0 (by decide)).2]; exact lr.1.2⟩).mark (w := 1) hf6 (by decide) ⟨by rw [(okM_a 1 (by decide)).1]; exact lr.2.1.1, by rw [(okM_a 1 (by decide)).2]; exact lr.2.1.2⟩
        · exact RP.mark (S := up S 1 (2 + 6 * f) x.1) (hI.1.2.mark (by omega) x.1) (by omega) x.2.1
      · unfold wX6_lays
        refine wrong6 (fun q => absurd rfl (q h hh)) (fun h2 hh2 e2 q => ?_) (fun h2 hh2 e2 q => br_t rfl ?_)
        · obtain rfl : h = h2 := (nI_eq (by omega) (by omega)).mp e2
          exact absurd q hz
        exact isF6' hn es (fun f hf e => absurd e (hno f hf)) (fun _ => br_t rfl (both hI (by decide) e_b))
  · unfold wX6_lays
    exact wrong6 (fun _ => br_f (by decide) (both hI (by decide) e_b)) (fun h hh e => absurd e (hno h hh)) (fun h hh e => absurd e (hno h hh))
end
