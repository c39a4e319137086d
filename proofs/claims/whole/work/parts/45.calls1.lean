/-! PLAIN CALLS 1: joined, join, team, pace, teamOf, as, set -/
section
variable {FI : Bun → Prop}
theorem lo_joined_ok : lo_joined (InvG FI) := by
  intro C N S J a1 hI
  obtain ⟨n, hn, en⟩ := hI.1.1.1
  have es : S 1 0 = nI n := hI.1.2.1.trans en
  unfold wX5_joined
  refine hasF5 hn en (fun f hf ex => ?_) (fun hbad => ?_)
  · refine br_f (by decide) ?_
    subst ex
    rw [tn_nI (by omega)]
    refine ⟨vp_in_nI (by omega) (by decide), ?_⟩
    unfold wX6_joined
    refine isF6' hn es (fun f2 hf2 ex2 => ?_) (fun hbad => absurd rfl (hbad f hf))
    refine br_f (by decide) ?_
    rw [show (38 : Int32) + nI f = nI (38 + f) from nI_add 38 f, tn_nI (by omega)]
    exact ⟨vp_in_nI (by omega) (by decide), (hI.1.2.2.2.2.1 f (by omega)).symm, hI⟩
  · refine br_t rfl ?_
    refine find5 (k := 0) (by decide) ?_
    unfold wX6_joined
    refine isF6' hn es (fun f hf ex => absurd ex (hbad f hf)) (fun _ => ?_)
    exact br_t rfl (both hI (by decide) e_b)
/-- masks of six bits -/
theorem six_of {x : Int32} (h0 : 0 ≤ x.toInt) (h1 : x.toInt ≤ 63) : ∃ j : Nat, j < 64 ∧ x = nI j := of_toInt h0 (by omega) (by decide)
theorem six_xor : ∀ j, j < 64 → ∀ t, t < 6 → 0 ≤ (nI j ^^^ ((1 : Int32) <<< (nI t &&& 31))).toInt ∧ (nI j ^^^ ((1 : Int32) <<< (nI t &&& 31))).toInt ≤ 63 := by decide +kernel
theorem six_or : ∀ j, j < 64 → ∀ t, t < 6 → bt (nI j) t = false → nI j ||| ((1 : Int32) <<< (nI t &&& 31)) = nI j ^^^ ((1 : Int32) <<< (nI t &&& 31)) := by decide +kernel
theorem six_and : ∀ j, j < 64 → ∀ t, t < 6 → bt (nI j) t = true → nI j &&& (((1 : Int32) <<< (nI t &&& 31)) ^^^ (-1)) = nI j ^^^ ((1 : Int32) <<< (nI t &&& 31)) := by decide +kernel
theorem six_or1 : ∀ j, j < 64 → ∀ t, t < 6 → bt (nI j) t = true → nI j ||| ((1 : Int32) <<< (nI t &&& 31)) = nI j := by decide +kernel
theorem six_and1 : ∀ j, j < 64 → ∀ t, t < 6 → bt (nI j) t = false → nI j &&& (((1 : Int32) <<< (nI t &&& 31)) ^^^ (-1)) = nI j := by decide +kernel
/-- the row of joins changes at one place, on both sides -/
theorem WF.joins {P : Bun} (h : WF P) {f : Nat} {v : Int32} (hv : 0 ≤ v.toInt ∧ v.toInt ≤ 63) : WF (up P 4 f v) := by
  obtain ⟨h1, h2, h3, h4, h5, h6⟩ := h
  refine ⟨by rw [up_k (by decide)]; exact h1, by rw [up_k (by decide)]; exact h2, by rw [up_k (by decide)]; exact h3, fun k hk => ?_, by rw [up_k (by decide)]; exact h5, by rw [up_k (by decide), up_k (by decide)]; exact h6⟩
  rw [up_eq]
  by_cases hkf : k = f
  · rw [if_pos ⟨rfl, hkf⟩]; exact hv
  · rw [if_neg (fun z => hkf z.2)]; exact h4 k hk
theorem RP.joins {P : Bun} {S : Bun} (h : RP P (S 1)) {f : Nat} (hf : f < 6) (v : Int32) : RP (up P 4 f v) (up S 1 (38 + f) v 1) := by
  obtain ⟨r1, r2, r3, r4, r5⟩ := h
  refine ⟨?_, ?_, fun k hk => ?_, fun k hk => ?_, fun t ht => ?_⟩
  · rw [up_ki (by omega), up_k (by decide)]; exact r1
  · rw [up_ki (by omega), up_k (by decide)]; exact r2
  · rw [up_ki (by omega), up_k (by decide)]; exact r3 k hk
  · rw [up_eq, up_eq]
    by_cases hkf : k = f
    · rw [if_pos ⟨rfl, by omega⟩, if_pos ⟨rfl, hkf⟩]
    · rw [if_neg (by omega), if_neg (by omega)]; exact r4 k hk
  · rw [up_ki (by omega), up_ki (by omega), up_k (by decide), up_k (by decide)]; exact r5 t ht
theorem up_same {S : Bun} {k i : Nat} {v : Int32} (h : S k i = v) : up S k i v = S := by
  funext k' i'
  rw [up_eq]
  by_cases hh : k' = k ∧ i' = i
  · rw [if_pos hh, hh.1, hh.2]; exact h.symm
  · rw [if_neg hh]
theorem lo_join_ok : lo_join (InvG FI) := by
  intro C N S J a1 a2 a3 hz hI
  obtain ⟨n, hn, en⟩ := hI.1.1.1
  have es : S 1 0 = nI n := hI.1.2.1.trans en
  have hbad : (¬ ∃ f t : Nat, f < n ∧ t < n ∧ f ≠ t ∧ a1 = nI f ∧ a2 = nI t) → wX6_join S J a1 a2 a3 (fun r1 S1 => (-1000000001 : Int32) - nI 0 = r1 ∧ InvG FI (bump5 C 0) N S1 J) := by
    intro hb
    unfold wX6_join
    refine isF6' hn es (fun f hf ex => wj (br_f (by decide) ?_)) (fun _ => wj (br_t rfl (both hI (by decide) e_b)))
    refine isF6' hn es (fun t ht et => br_f (by decide) ?_) (fun _ => br_t rfl (both hI (by decide) e_b))
    refine ⟨fun _ => both hI (by decide) e_b, fun hne => absurd ⟨f, t, hf, ht, fun h => hne (by rw [ex, et, h]), ex, et⟩ hb⟩
  unfold wX5_join
  refine hasF5 hn en (fun f hf ex => wj (br_f (by decide) ?_)) (fun h1 => wj (br_t rfl (find5 (k := 0) (by decide) (hbad (fun ⟨f, t, hf, _, _, e, _⟩ => h1 f hf e)))))
  refine hasF5 hn en (fun t ht et => br_f (by decide) ?_) (fun h1 => br_t rfl (find5 (k := 0) (by decide) (hbad (fun ⟨_, t, _, ht, _, _, e⟩ => h1 t ht e))))
  refine ⟨fun heq => find5 (k := 0) (by decide) (hbad (fun ⟨f2, t2, hf2, ht2, hne, e1, e2⟩ => hne ((nI_eq (by omega) (by omega)).mp (by rw [← e1, ← e2, heq])))), fun hne => ?_⟩
  have hft : f ≠ t := fun h => hne (by rw [ex, et, h])
  subst ex et
  obtain ⟨j, hj, ej⟩ := six_of (hI.1.1.2.2.2.1 f (by omega)).1 (hI.1.1.2.2.2.1 f (by omega)).2
  have sj : S 1 (38 + f) = nI j := (hI.1.2.2.2.2.1 f (by omega)).trans ej
  have vf : vp_in (nI f) 6 := vp_in_nI (by omega) (by decide)
  have vs : vp_in (nI (38 + f)) 56 := vp_in_nI (by omega) (by decide)
  -- the model's side, once the class has answered
  have h6 : ∀ (R : Int32) (C1 : Nat → Bun) (v : Int32), (bt (nI j) t = true → a3 = 0 → v = nI j ^^^ ((1 : Int32) <<< (nI t &&& 31)) ∧ R = 1) → (bt (nI j) t = false → a3 = 1 → v = nI j ^^^ ((1 : Int32) <<< (nI t &&& 31)) ∧ R = 1) → (bt (nI j) t = true → a3 = 1 → v = nI j ∧ R = 0) → (bt (nI j) t = false → a3 = 0 → v = nI j ∧ R = 0) → InvG FI C1 N (up S 1 (38 + f) v) J → wX6_join S J (nI f) (nI t) a3 (fun r1 S1 => R = r1 ∧ InvG FI C1 N S1 J) := by
    intro R C1 v k1 k2 k3 k4 hInv
    unfold wX6_join
    refine isF6' hn es (fun _ _ _ => wj (br_f (by decide) ?_)) (fun hb => absurd rfl (hb f hf))
    refine isF6' hn es (fun _ _ _ => br_f (by decide) ?_) (fun hb => absurd rfl (hb t ht))
    refine br_f hne ?_
    rw [show (38 : Int32) + nI f = nI (38 + f) from nI_add 38 f, tn_nI (by omega), sj]
    refine ⟨vs, has_b (by omega) (fun hb => wj ?_) (fun hb => wj ?_)⟩
    · rcases hz with rfl | rfl
      · obtain ⟨rfl, rfl⟩ := k1 hb rfl
        refine br_t rfl ⟨vs, vs, ?_⟩
        rintro _ rfl
        refine br_f (by decide) ⟨rfl, ?_⟩
        rw [six_and j hj t (by omega) hb]; exact hInv
      · obtain ⟨rfl, rfl⟩ := k3 hb rfl
        refine br_f (by decide) ⟨vs, vs, ?_⟩
        rintro _ rfl
        refine br_t rfl ⟨rfl, ?_⟩
        rw [six_or1 j hj t (by omega) hb]; exact hInv
    · rcases hz with rfl | rfl
      · obtain ⟨rfl, rfl⟩ := k4 hb rfl
        refine br_t rfl ⟨vs, vs, ?_⟩
        rintro _ rfl
        refine br_t rfl ⟨rfl, ?_⟩
        rw [six_and1 j hj t (by omega) hb]; exact hInv
      · obtain ⟨rfl, rfl⟩ := k2 hb rfl
        refine br_f (by decide) ⟨vs, vs, ?_⟩
        rintro _ rfl
        refine br_f (by decide) ⟨rfl, ?_⟩
        rw [six_or j hj t (by omega) hb]; exact hInv
  have hsame : InvG FI C N (up S 1 (38 + f) (nI j)) J := by rw [up_same sj]; exact hI
  have hnew : InvG FI (va_up C 1 (up (C 1) 4 f (nI j ^^^ ((1 : Int32) <<< (nI t &&& 31))))) N (up S 1 (38 + f) (nI j ^^^ ((1 : Int32) <<< (nI t &&& 31)))) J := hI.now (fun r hr => up_k hr) (hI.1.1.joins (six_xor j hj t (by omega))) (hI.1.2.joins (by omega) _)
  rw [tn_nI (by omega), ej]
  refine ⟨vf, holds_b (by omega) (fun hb => ?_) (fun hb => ?_)⟩
  · rcases hz with rfl | rfl
    · refine br_f (by decide) ⟨vf, vf, ?_⟩
      rintro _ rfl
      exact h6 1 _ _ (fun _ _ => ⟨rfl, rfl⟩) (fun h _ => absurd h (by rw [hb]; decide)) (fun _ h => absurd h (by decide)) (fun h _ => absurd h (by rw [hb]; decide)) hnew
    · exact br_t rfl (h6 0 _ _ (fun _ h => absurd h (by decide)) (fun h _ => absurd h (by rw [hb]; decide)) (fun _ _ => ⟨rfl, rfl⟩) (fun h _ => absurd h (by rw [hb]; decide)) hsame)
  · rcases hz with rfl | rfl
    · exact br_t rfl (h6 0 _ _ (fun h _ => absurd h (by rw [hb]; decide)) (fun _ h => absurd h (by decide)) (fun h _ => absurd h (by rw [hb]; decide)) (fun _ _ => ⟨rfl, rfl⟩) hsame)
    · refine br_f (by decide) ⟨vf, vf, ?_⟩
      rintro _ rfl
      exact h6 1 _ _ (fun h _ => absurd h (by rw [hb]; decide)) (fun _ _ => ⟨rfl, rfl⟩) (fun h _ => absurd h (by rw [hb]; decide)) (fun _ h => absurd h (by decide)) hnew
end
