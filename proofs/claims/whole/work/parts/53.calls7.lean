/-! PLAIN CALLS 7: count -/
section
variable {FI : Bun → Prop} {C C1 : Nat → Bun} {N N1 : Nat → Lon} {S S1 : Bun} {J J1 : Lon}
/-- earth is a mask of sixteen bits -/
theorem earth_n (st tr : Int32) : ∃ n : Nat, n < 65536 ∧ earthOf st tr = nI n := by
  unfold earthOf
  generalize (st ||| tr) ^^^ (-1) = y
  have h : (65535 &&& y).toBitVec.toNat ≤ 65535 := by
    rw [Int32.toBitVec_and, BitVec.toNat_and]
    exact Nat.le_trans Nat.and_le_left (by decide)
  have e : (65535 &&& y).toInt = (65535 &&& y).toBitVec.toInt := rfl
  exact of_toInt (n := 65536) (by rw [e, BitVec.toInt_eq_toNat_of_lt (by omega)]; omega) (by rw [e, BitVec.toInt_eq_toNat_of_lt (by omega)]; omega) (by decide)
/-- both loops of a count: the same sum -/
theorem lo_count_ok : lo_count (InvG FI) := by
  intro C N S J a1 hI
  obtain ⟨n, hn, en⟩ := hI.1.1.1
  have es : S 1 0 = nI n := hI.1.2.1.trans en
  unfold wX5_count
  rintro _ rfl
  refine ⟨fun h => ?_, fun h => ?_, fun h => ?_, fun h => ?_, fun h => ?_, fun h => ?_⟩
  · subst h
    unfold wX6_count
    rintro _ rfl
    exact ⟨fun _ => ⟨vin0, hI.1.2.1.symm, hI⟩, fun e => absurd e (by decide), fun e => absurd e (by decide), fun e => absurd e (by decide), fun e => absurd e (by decide), fun e => absurd e (by decide)⟩
  · subst h
    unfold wX6_count
    rintro _ rfl
    exact ⟨fun e => absurd e (by decide), fun _ => ⟨vin1, hI.1.2.2.1.symm, hI⟩, fun e => absurd e (by decide), fun e => absurd e (by decide), fun e => absurd e (by decide), fun e => absurd e (by decide)⟩
  · subst h
    have hc : ∀ f : Nat, ∃ m : Nat, m < 65536 ∧ earthOf (C 1 3 (6 * f)) (C 1 3 (6 * f + 1)) = nI m := fun f => earth_n _ _
    refine Exists.elim (Classical.axiomOfChoice hc) (fun g hg => ?_)
    unfold wX1_allEarth
    refine wl_up2 (fun i x y => x = sumTo (fun k => nI (pcN (g k))) i ∧ y = nI i) n ?_ (i := 0) (by omega) ⟨rfl, rfl⟩
    rintro i x y K hi ⟨rfl, rfl⟩ hK
    refine ⟨fun h => ?_, fun h => ?_⟩
    · rw [en] at h
      have hin : i = n := by
        have := (nI_leI (by omega) (by omega)).mp h
        omega
      subst hin
      unfold wX6_count
      rintro _ rfl
      refine ⟨fun e => absurd e (by decide), fun e => absurd e (by decide), fun _ => ?_, fun e => absurd e (by decide), fun e => absurd e (by decide), fun e => absurd e (by decide)⟩
      refine wl_up2 (fun j x y => x = sumTo (fun k => nI (pcN (g k))) j ∧ y = nI j) i ?_ (i := 0) (by omega) ⟨rfl, rfl⟩
      rintro j x y K2 hj ⟨rfl, rfl⟩ hK2
      refine ⟨vin0, fun h => ?_, fun h => ?_⟩
      · rw [c0', es] at h
        have hji : j = i := by
          have := (nI_leI (by omega) (by omega)).mp h
          omega
        subst hji
        exact ⟨rfl, hI⟩
      · rw [c0', es] at h
        have hlt : j < i := by
          rcases Nat.lt_or_ge j i with h' | h'
          · exact h'
          · exact absurd (nI_le h' (by omega)) h
        refine earth6 (by omega) ?_
        rw [hI.1.2.2.2.1 _ (by omega), hI.1.2.2.2.1 _ (by omega), (hg j).2]
        refine ones_n (hg j).1 ?_
        rintro _ rfl _ rfl
        exact hK2 _ _ hlt ⟨rfl, nI_add j 1⟩
    · rw [en] at h
      have hlt : i < n := by
        rcases Nat.lt_or_ge i n with h' | h'
        · exact h'
        · exact absurd (nI_le h' (by omega)) h
      refine earth5 (by omega) ?_
      rw [(hg i).2]
      refine bitCount_n (hg i).1 ?_
      rintro _ rfl _ rfl
      exact hK _ _ hlt ⟨rfl, nI_add i 1⟩
  · subst h
    have hc : ∀ f : Nat, ∃ m : Nat, m < 65536 ∧ (f < 6 → C 1 4 f = nI m) := fun f => by
      by_cases hf : f < 6
      · obtain ⟨j, hj, ej⟩ := six_of (hI.1.1.2.2.2.1 f hf).1 (hI.1.1.2.2.2.1 f hf).2
        exact ⟨j, by omega, fun _ => ej⟩
      · exact ⟨0, by omega, fun h => absurd h hf⟩
    refine Exists.elim (Classical.axiomOfChoice hc) (fun g hg => ?_)
    unfold wX1_allJoins
    refine wl_up2 (fun i x y => x = sumTo (fun k => nI (pcN (g k))) i ∧ y = nI i) n ?_ (i := 0) (by omega) ⟨rfl, rfl⟩
    rintro i x y K hi ⟨rfl, rfl⟩ hK
    refine ⟨fun h => ?_, fun h => ?_⟩
    · rw [en] at h
      have hin : i = n := by
        have := (nI_leI (by omega) (by omega)).mp h
        omega
      subst hin
      unfold wX6_count
      rintro _ rfl
      refine ⟨fun e => absurd e (by decide), fun e => absurd e (by decide), fun e => absurd e (by decide), fun _ => ?_, fun e => absurd e (by decide), fun e => absurd e (by decide)⟩
      refine wl_up2 (fun j x y => x = sumTo (fun k => nI (pcN (g k))) j ∧ y = nI j) i ?_ (i := 0) (by omega) ⟨rfl, rfl⟩
      rintro j x y K2 hj ⟨rfl, rfl⟩ hK2
      refine ⟨vin0, fun h => ?_, fun h => ?_⟩
      · rw [c0', es] at h
        have hji : j = i := by
          have := (nI_leI (by omega) (by omega)).mp h
          omega
        subst hji
        exact ⟨rfl, hI⟩
      · rw [c0', es] at h
        have hlt : j < i := by
          rcases Nat.lt_or_ge j i with h' | h'
          · exact h'
          · exact absurd (nI_le h' (by omega)) h
        rw [show (38 : Int32) + nI j = nI (38 + j) from nI_add 38 j, tn_nI (by omega)]
        refine ⟨vp_in_nI (by omega) (by decide), ?_⟩
        rw [hI.1.2.2.2.2.1 j (by omega), (hg j).2 (by omega)]
        refine ones_n (hg j).1 ?_
        rintro _ rfl _ rfl
        exact hK2 _ _ hlt ⟨rfl, nI_add j 1⟩
    · rw [en] at h
      have hlt : i < n := by
        rcases Nat.lt_or_ge i n with h' | h'
        · exact h'
        · exact absurd (nI_le h' (by omega)) h
      rw [tn_nI (by omega), (hg i).2 (by omega)]
      refine ⟨vp_in_nI (by omega) (by decide), ?_⟩
      refine bitCount_n (hg i).1 ?_
      rintro _ rfl _ rfl
      exact hK _ _ hlt ⟨rfl, nI_add i 1⟩
  · subst h
    obtain ⟨m, hm, e5, e6, hk⟩ := hI.2.2.2.2.1
    unfold wX6_count
    rintro _ rfl
    exact ⟨fun e => absurd e (by decide), fun e => absurd e (by decide), fun e => absurd e (by decide), fun e => absurd e (by decide), fun _ => ⟨e5.trans e6.symm, hI⟩, fun e => absurd e (by decide)⟩
  · refine find5 (k := 0) (by decide) ?_
    unfold wX6_count
    rintro _ rfl
    have no : ∀ {z : Int32}, (z.toInt < 0 ∨ 4 < z.toInt) → ∀ v : Int32, 0 ≤ v.toInt → v.toInt ≤ 4 → z ≠ v := fun h v h0 h4 e => by rw [e] at h; omega
    exact ⟨fun e => absurd e (no h 0 (by decide) (by decide)), fun e => absurd e (no h 1 (by decide) (by decide)), fun e => absurd e (no h 2 (by decide) (by decide)), fun e => absurd e (no h 3 (by decide) (by decide)), fun e => absurd e (no h 4 (by decide) (by decide)), fun _ => both hI (by decide) e_b⟩
end
