/-! going through all rows, both sides -/
section
variable {n : Nat} {w v jm : Nat → Nat} {g : Nat → Option Nat} {C : Nat → Bun} {N : Nat → Lon} {S : Bun} {J : Lon} {FI : Bun → Prop}
theorem InvG.rows (h : InvG FI C N S J) (X : Bun) : InvG FI (va_up C 5 X) N S J := by
  have e : ∀ x, x ≠ 5 → va_up C 5 X x = C x := fun x hx => up_o hx
  refine h.of ?_ ?_ ?_ ?_ ?_ (h.2.2.2.2.2.1.same (fun k hk => e _ (by omega)) (fun _ _ => rfl) rfl rfl rfl) (fun b hb => e b (isF_ne hb).2.2.2.2.2.1)
  · rw [e 1 (by decide)]; exact h.1
  · rw [e 2 (by decide)]; exact h.2.1
  · rw [e 0 (by decide)]; exact h.2.2.1
  · rw [e 0 (by decide)]; exact h.2.2.2.1
  · rw [e 4 (by decide)]; exact h.2.2.2.2.1
/-- what findCosts leaves alone -/
def FrC (S0 S : Bun) : Prop := (∀ r, r ≠ 0 → r ≠ 6 → r ≠ 7 → r ≠ 8 → r ≠ 9 → r ≠ 10 → r ≠ 15 → S r = S0 r) ∧ ∀ k, k ≠ 10 → k ≠ 11 → k ≠ 12 → k ≠ 13 → S 0 k = S0 0 k
theorem FrC.rfl' (S : Bun) : FrC S S := ⟨fun _ _ _ _ _ _ _ _ => rfl, fun _ _ _ _ _ => rfl⟩
theorem FrC.fr {S0 S S' : Bun} (h : FrC S0 S) (h2 : Fr S S') : FrC S0 S' := ⟨fun r a b c d e f g => (h2.1 r a b c d e f).trans (h.1 r a b c d e f g), fun k a b c d => (h2.2 k a b c d).trans (h.2 k a b c d)⟩
theorem FrC.c15 {S0 S : Bun} (h : FrC S0 S) {k : Nat} {x : Int32} : FrC S0 (up S 15 k x) := ⟨fun r a b c d e f g => by rw [up_k g]; exact h.1 r a b c d e f g, fun q a b c d => by rw [up_k (by decide)]; exact h.2 q a b c d⟩
theorem FrC.one {S0 S : Bun} (h : FrC S0 S) : S 1 = S0 1 := h.1 1 (by decide) (by decide) (by decide) (by decide) (by decide) (by decide) (by decide)
theorem InvG.frc {S' : Bun} (h : InvG FI C N S J) (hf : FrC S S') : InvG FI C N S' J := by
  have r : ∀ x, x ≠ 0 → x ≠ 6 → x ≠ 7 → x ≠ 8 → x ≠ 9 → x ≠ 10 → x ≠ 15 → S' x = S x := hf.1
  refine h.of ?_ ?_ ?_ ?_ ?_ ?_ (fun _ _ => rfl)
  · rw [hf.one]; exact h.1
  · rw [r 2 (by decide) (by decide) (by decide) (by decide) (by decide) (by decide) (by decide)]; exact h.2.1
  · rw [hf.2 4 (by decide) (by decide) (by decide) (by decide)]; exact h.2.2.1
  · rw [r 4 (by decide) (by decide) (by decide) (by decide) (by decide) (by decide) (by decide)]; exact h.2.2.2.1
  · exact h.2.2.2.2.1.same rfl (hf.2 24 (by decide) (by decide) (by decide) (by decide)) rfl (r 24 (by decide) (by decide) (by decide) (by decide) (by decide) (by decide) (by decide))
  · exact h.2.2.2.2.2.1.same (fun _ _ => rfl) (fun _ _ => rfl) (r 30 (by decide) (by decide) (by decide) (by decide) (by decide) (by decide) (by decide)) (r 31 (by decide) (by decide) (by decide) (by decide) (by decide) (by decide) (by decide)) rfl
theorem InvG.frl {S' : Bun} (h : InvG FI C N S J) (hf : FrL S S') : InvG FI C N S' J := by
  have r : ∀ x, x ≠ 0 → x ≠ 16 → x ≠ 17 → x ≠ 18 → x ≠ 19 → S' x = S x := hf.1
  refine h.of ?_ ?_ ?_ ?_ ?_ ?_ (fun _ _ => rfl)
  · rw [hf.one.1]; exact h.1
  · rw [r 2 (by decide) (by decide) (by decide) (by decide) (by decide)]; exact h.2.1
  · rw [hf.2 4 (by decide) (by decide) (by decide) (by decide)]; exact h.2.2.1
  · rw [r 4 (by decide) (by decide) (by decide) (by decide) (by decide)]; exact h.2.2.2.1
  · exact h.2.2.2.2.1.same rfl (hf.2 24 (by decide) (by decide) (by decide) (by decide)) rfl (r 24 (by decide) (by decide) (by decide) (by decide) (by decide))
  · exact h.2.2.2.2.2.1.same (fun _ _ => rfl) (fun _ _ => rfl) (r 30 (by decide) (by decide) (by decide) (by decide) (by decide)) (r 31 (by decide) (by decide) (by decide) (by decide) (by decide)) rfl
/-- the fields of a team's rows -/
def Gd (C : Nat → Bun) (S : Bun) (n t : Nat) (g : Nat → Option Nat) (w v jm : Nat → Nat) : Prop := ∀ f, f < n → (∃ K p T E i o, QD C t f K p T E i o ∧ Q6 S t f K T E i o ∧ S 1 (45 + 2 * t) = nI p ∧ g f = cstN K p (bst (whN K (bsN K T) E i o))) ∧ C 1 3 (6 * f + 4) = nI (w f) ∧ C 1 3 (6 * f + 5) = nI (v f) ∧ C 1 4 f = nI (jm f)
theorem cst_pos {K p B E : Nat} {i o : Option Nat} (hE : E < 65536) (hp : 1 ≤ p) {x : Nat} (h : cstN K p (bst (whN K B E i o)) = some x) : 1 ≤ x := by
  cases hb : bst (whN K B E i o) with
  | none => rw [hb] at h; cases h
  | some m =>
    rw [hb] at h
    have h' : p * m.1 + drN K * m.2.2 = x := Option.some.inj h
    have := (all_mem hE (wh_mem.mp (bst_mem hb)).1).1
    have : 1 * 1 ≤ p * m.1 := Nat.mul_le_mul hp (by omega)
    omega
theorem Gd_of {m t : Nat} (hI : InvG FI C N S J) (hn : n ≤ 6) (hm : m ≤ 6) (em : C 1 0 1 = nI m) (ht : t < m) : ∃ (g : Nat → Option Nat) (w v jm : Nat → Nat), PgOk n g w v jm ∧ Gd C S n t g w v jm := by
  have ex : ∀ f : Nat, ∃ x : Option Nat, f < n → ∃ K p T E i o, QD C t f K p T E i o ∧ Q6 S t f K T E i o ∧ S 1 (45 + 2 * t) = nI p ∧ x = cstN K p (bst (whN K (bsN K T) E i o)) := by
    intro f
    by_cases hf : f < n
    · obtain ⟨K, p, T, E, i, o, q1, q2, q3⟩ := QD_of (f := f) hI hm em ht (by omega)
      exact ⟨_, fun _ => ⟨K, p, T, E, i, o, q1, q2, q3, rfl⟩⟩
    · exact ⟨none, fun z => absurd z hf⟩
  obtain ⟨F, hF⟩ := Classical.axiomOfChoice ex
  have val : ∀ (x : Int32) (b : Nat), b < 2 ^ 31 → 0 ≤ x.toInt → x.toInt ≤ b → x = nI x.toNatClampNeg ∧ x.toNatClampNeg ≤ b := by
    intro x b hb h0 h1
    obtain ⟨a, ha, ea⟩ := of_toInt (x := x) (n := b + 1) h0 (by omega) (by omega)
    rw [ea, tn_nI (by omega)]
    exact ⟨rfl, by omega⟩
  have all : ∀ f, f < n → (C 1 3 (6 * f + 4) = nI (C 1 3 (6 * f + 4)).toNatClampNeg ∧ (C 1 3 (6 * f + 4)).toNatClampNeg ≤ 99) ∧ (C 1 3 (6 * f + 5) = nI (C 1 3 (6 * f + 5)).toNatClampNeg ∧ (C 1 3 (6 * f + 5)).toNatClampNeg ≤ 999) ∧ (C 1 4 f = nI (C 1 4 f).toNatClampNeg ∧ (C 1 4 f).toNatClampNeg ≤ 63) := by
    intro f hf
    have w3 := hI.1.1.2.2.1 f (by omega)
    have w4 := hI.1.1.2.2.2.1 f (by omega)
    exact ⟨val _ 99 (by decide) w3.2.2.1.1 w3.2.2.1.2, val _ 999 (by decide) w3.2.2.2.1 w3.2.2.2.2, val _ 63 (by decide) w4.1 w4.2⟩
  refine ⟨F, fun f => (C 1 3 (6 * f + 4)).toNatClampNeg, fun f => (C 1 3 (6 * f + 5)).toNatClampNeg, fun f => (C 1 4 f).toNatClampNeg, ⟨hn, fun f hf => ?_⟩, fun f hf => ?_⟩
  · obtain ⟨K, p, T, E, i, o, q1, q2, q3, q4⟩ := hF f hf
    obtain ⟨a1, a2, a3⟩ := all f hf
    refine ⟨fun x hx => ?_, a1.2, a2.2, Nat.lt_succ_of_le a3.2⟩
    rw [q4] at hx
    exact ⟨cst_pos q1.2.2.2.2.1 q1.2.2.1.1 hx, cst_bnd q1.2.2.2.2.1 q1.2.1 q1.2.2.1.2 hx⟩
  · obtain ⟨a1, a2, a3⟩ := all f hf
    exact ⟨hF f hf, a1.1, a2.1, a3.1⟩
theorem goThrough5 {m t : Nat} (hI : InvG FIs C N S J) (hn : n ≤ 6) (en : C 1 0 0 = nI n) (ht : t < 6) (hP : PgOk n g w v jm) (hG : Gd C S n t g w v jm) {post : (Nat → Bun) → Prop} (h : ∀ C' : Nat → Bun, InvG FIs C' N S J → C' 1 = C 1 → CG n g w v jm (C' 5) → RC n (cO g) w v (LnN n g w jm) (C' 5) → post C') : wX5_goThrough C N (nI t) post := by
  unfold wX5_goThrough
  rintro _ rfl
  refine wl_up2 (fun j x D => x = nI j ∧ InvG FIs D N S J ∧ D 1 = C 1 ∧ D 5 0 0 = nI n ∧ ∀ f, f < j → D 5 2 f = cI (g f) ∧ D 5 3 f = nI (w f) ∧ D 5 4 f = nI (v f) ∧ D 5 5 f = nI (jm f)) n ?_ (i := 0) (by omega) ⟨rfl, hI.rows _, up_o (by decide), by rw [up_s, up_ss]; exact en, fun f hf => absurd hf (by omega)⟩
  rintro j x D KK hj ⟨rfl, k1, k2, k3, k4⟩ hKK
  refine ⟨fun hc => ?_, fun hc => ?_⟩ <;> rw [k2, en] at hc
  · have := (nI_leI (by omega) (by omega)).mp hc
    obtain rfl : j = n := by omega
    refine search5 hP ⟨k3, k4⟩ (fun S' u1 u2 => ?_)
    rintro _ rfl
    exact h _ (k1.rows _) (by rw [up_o (by decide)]; exact k2) (by rw [up_s]; exact u1) (by rw [up_s]; exact u2)
  · have hlt : j < n := by
      rcases Nat.lt_or_ge j n with h' | h'
      · exact h'
      · exact absurd (nI_le h' (by omega)) hc
    obtain ⟨⟨K, p, T, E, i, o, q1, q2, q3, q4⟩, g4, g5, gj⟩ := hG j hlt
    have qD : QD D t j K p T E i o := by unfold QD; rw [k2]; exact q1
    have hj6 : j < 6 := by omega
    have vj : vp_in (nI j) 6 := vp_in_nI hj6 (by decide)
    refine furrowsOf5 k1 ht hj6 qD (fun b F hF h1 h2 => ?_)
    have ne : (1 : Nat) ≠ b := fun z => (isF_ne hF).2.1 z.symm
    have ne5 : (5 : Nat) ≠ b := fun z => (isF_ne hF).2.2.2.2.2.1 z.symm
    have kb := k1.fur hF h1
    refine costOf5 hF ht qD.2.1 qD.2.2.2.2.1 (B := bsN K T) (i := i) (o := o) (p := p) (by rw [up_o ne]; exact qD.1.1) (by rw [up_o ne]; exact qD.1.2.1) (by rw [up_s]; exact h2) ⟨vj, ?_⟩
    rw [← q4, up_o ne5, tn_nI (n := j) (by omega)]
    rintro _ rfl
    have c1 : ∀ X : Bun, va_up (va_up D b F) 5 X 1 = C 1 := fun X => by rw [up_o (by decide), up_o ne]; exact k2
    rw [c1]
    refine mark5 (w := 4) hj6 (by decide) ⟨vj, ?_⟩
    rw [g4, up_s]
    rintro _ rfl
    rw [va_twice, c1]
    refine mark5 (w := 5) hj6 (by decide) ⟨vj, ?_⟩
    rw [g5, up_s]
    rintro _ rfl
    refine ⟨vj, vj, ?_⟩
    simp only [va_twice, c1, gj, up_s]
    rintro _ rfl _ rfl
    refine hKK _ _ hlt ⟨nI_1 j, kb.rows _, c1 _, ?_, fun f hf => ?_⟩
    · rw [up_s, up_k (by decide), up_k (by decide), up_k (by decide), up_k (by decide)]; exact k3
    · rw [up_s]
      by_cases e : f = j
      · subst e
        refine ⟨?_, ?_, ?_, up_ss⟩
        · rw [up_k (by decide), up_k (by decide), up_k (by decide), up_ss]
        · rw [up_k (by decide), up_k (by decide), up_ss]
        · rw [up_k (by decide), up_ss]
      · obtain ⟨a1, a2, a3, a4⟩ := k4 f (by omega)
        refine ⟨?_, ?_, ?_, ?_⟩
        · rw [up_k (by decide), up_k (by decide), up_k (by decide), up_ki e]; exact a1
        · rw [up_k (by decide), up_k (by decide), up_ki e, up_k (by decide)]; exact a2
        · rw [up_k (by decide), up_ki e, up_k (by decide), up_k (by decide)]; exact a3
        · rw [up_ki e, up_k (by decide), up_k (by decide), up_k (by decide)]; exact a4
theorem findCosts6 {t : Nat} {S1 : Bun} (hI : InvG FI C N S J) (hn : n ≤ 6) (es : S 1 0 = nI n) (ht : t < 6) (hG : Gd C S n t g w v jm) (h1 : S1 1 = S 1) {post : Bun → Prop} (h : ∀ S' : Bun, FrC S1 S' → MG n g w v jm S' → post S') : wX6_findCosts S1 J (nI t) post := by
  unfold wX6_findCosts
  refine wl_up2 (fun j x S2 => x = nI j ∧ FrC S1 S2 ∧ ∀ f, f < j → S2 15 f = gI (g f)) n ?_ (i := 0) (by omega) ⟨rfl, FrC.rfl' S1, fun f hf => absurd hf (by omega)⟩
  rintro j x S2 KK hj ⟨rfl, k1, k2⟩ hKK
  have s1 : S2 1 = S 1 := k1.one.trans h1
  refine ⟨vin0, fun hc => ?_, fun hc => ?_⟩ <;> rw [c0', s1, es] at hc
  · have := (nI_leI (by omega) (by omega)).mp hc
    obtain rfl : j = n := by omega
    refine h S2 k1 ⟨by rw [s1]; exact es, fun f hf => ?_⟩
    obtain ⟨_, g4, g5, gj⟩ := hG f hf
    have r3 := hI.1.2.2.2.1
    rw [s1]
    exact ⟨k2 f hf, (r3 _ (by omega)).trans g4, (r3 _ (by omega)).trans g5, (hI.1.2.2.2.2.1 f (by omega)).trans gj⟩
  · have hlt : j < n := by
      rcases Nat.lt_or_ge j n with h' | h'
      · exact h'
      · exact absurd (nI_le h' (by omega)) hc
    obtain ⟨⟨K, p, T, E, i, o, q1, q2, q3, q4⟩, g4, g5, gj⟩ := hG j hlt
    obtain ⟨_, hK, hp, hT, hE, gi, go⟩ := q1
    refine costOf6 (K := K) (T := T) (E := E) (i := i) (o := o) (p := p) ht (by omega) hK hT hE gi go (by unfold Q6; rw [s1]; exact q2) (by rw [s1]; exact q3) (fun S' u1 u2 => ⟨vp_in_nI (by omega) (by decide), ?_⟩)
    rw [← q4, tn_nI (n := j) (by omega)]
    rintro _ rfl _ rfl
    have fc := k1.fr u1
    refine hKK _ _ hlt ⟨nI_1 j, fc.c15, fun f hf => ?_⟩
    have r15 : S' 15 = S2 15 := u1.1 15 (by decide) (by decide) (by decide) (by decide) (by decide) (by decide)
    by_cases e : f = j
    · rw [e, up_ss]
    · rw [up_ki e, r15]; exact k2 f (by omega)
end
