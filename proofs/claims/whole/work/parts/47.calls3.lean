/-! PLAIN CALLS 3: pace, team, as -/
section
variable {FI : Bun → Prop}
theorem WF.pace {P : Bun} (h : WF P) {f p : Nat} (hp : 1 ≤ p ∧ p ≤ 9) : WF (up P 6 f (nI p)) := by
  obtain ⟨h1, h2, h3, h4, h5, h6⟩ := h
  refine ⟨by rw [up_k (by decide)]; exact h1, by rw [up_k (by decide)]; exact h2, by rw [up_k (by decide)]; exact h3, by rw [up_k (by decide)]; exact h4, by rw [up_k (by decide)]; exact h5, fun t m e ht hm => ?_⟩
  rw [up_k (by decide)] at e
  rw [up_eq]
  by_cases hkf : t = f
  · rw [if_pos ⟨rfl, hkf⟩]; exact ⟨p, hp.1, hp.2, rfl⟩
  · rw [if_neg (fun z => hkf z.2)]; exact h6 t m e ht hm
theorem RP.pace {P : Bun} {S : Bun} (h : RP P (S 1)) {f : Nat} (hf : f < 6) (v : Int32) : RP (up P 6 f v) (up S 1 (45 + 2 * f) v 1) := by
  obtain ⟨r1, r2, r3, r4, r5⟩ := h
  refine ⟨?_, ?_, fun k hk => ?_, fun k hk => ?_, fun t ht => ⟨?_, ?_⟩⟩
  · rw [up_ki (by omega), up_k (by decide)]; exact r1
  · rw [up_ki (by omega), up_k (by decide)]; exact r2
  · rw [up_ki (by omega), up_k (by decide)]; exact r3 k hk
  · rw [up_ki (by omega), up_k (by decide)]; exact r4 k hk
  · rw [up_ki (by omega), up_k (by decide)]; exact (r5 t ht).1
  · rw [up_eq, up_eq]
    by_cases hkf : t = f
    · rw [if_pos ⟨rfl, by omega⟩, if_pos ⟨rfl, hkf⟩]
    · rw [if_neg (by omega), if_neg (by omega)]; exact (r5 t ht).2
theorem lo_pace_ok : lo_pace (InvG FI) := by
  intro C N S J a1 a2 hI
  obtain ⟨n, hn, en⟩ := hI.1.1.2.1
  have es : S 1 1 = nI n := hI.1.2.2.1.trans en
  have hbad : (¬ ∃ t w : Nat, t < n ∧ (1 ≤ w ∧ w ≤ 9) ∧ a1 = nI t ∧ a2 = nI w) → wX6_pace S J a1 a2 (fun r1 S1 => (-1000000001 : Int32) - nI 0 = r1 ∧ InvG FI (bump5 C 0) N S1 J) := by
    intro hb
    unfold wX6_pace
    refine isT6 hn es (fun t ht ex => wj (br_f (by decide) ?_)) (fun _ => wj (br_t rfl (both hI (by decide) e_b)))
    exact in_r (lo := 1) (hi := 9) (by decide) (by decide) (by decide) (fun w h1 hw ew => absurd ⟨t, w, ht, ⟨h1, hw⟩, ex, ew⟩ hb) (fun _ => br_t rfl (both hI (by decide) e_b))
  unfold wX5_pace
  refine hasT5 hn en (fun t ht ex => wj (br_f (by decide) ?_)) (fun h1 => wj (br_t rfl (find5 (k := 0) (by decide) (hbad (fun ⟨t, _, ht, _, e, _⟩ => h1 t ht e)))))
  refine pace5 (fun w hw1 hw ew => br_f (by decide) ?_) (fun hno => br_t rfl (find5 (k := 0) (by decide) (hbad (fun ⟨_, w, _, hw, _, e⟩ => hno w hw.1 hw.2 e))))
  subst ex ew
  have ht6 : t < 6 := by omega
  have vt : vp_in (nI t) 6 := vp_in_nI (by omega) (by decide)
  rw [tn_nI (by omega)]
  refine ⟨vt, ?_⟩
  rintro _ rfl
  refine ⟨vt, ?_⟩
  rintro _ rfl
  unfold wX6_pace
  refine isT6 hn es (fun _ _ _ => wj (br_f (by decide) ?_)) (fun hb => absurd rfl (hb t ht))
  refine in_r (lo := 1) (hi := 9) (by decide) (by decide) (by decide) (fun _ _ _ _ => br_f (by decide) ?_) (fun hb => absurd rfl (hb w hw1 hw))
  refine paceOf6 ht6 ?_
  rw [ix_t1 ht6, tn_nI (by omega)]
  refine ⟨vp_in_nI (by omega) (by decide), ?_⟩
  rintro _ rfl
  exact ⟨(hI.1.2.2.2.2.2 t ht6).2.symm, hI.now (fun r hr => up_k hr) (hI.1.1.pace ⟨hw1, hw⟩) (hI.1.2.pace ht6 _)⟩
/-- a new team -/
def newT (P : Bun) (m : Nat) (k p : Int32) : Bun := up (up (up P 5 m k) 6 m p) 0 1 (nI (m + 1))
def newT6 (S : Bun) (m : Nat) (k p : Int32) : Bun := up (up (up S 1 (44 + 2 * m) k) 1 (45 + 2 * m) p) 1 1 (nI (m + 1))
theorem WF.teamN {P : Bun} (h : WF P) {m k p : Nat} (e : P 0 1 = nI m) (hm : m < 6) (hk : k < 6) (hp : 1 ≤ p ∧ p ≤ 9) : WF (newT P m (nI k) (nI p)) := by
  obtain ⟨h1, h2, h3, h4, h5, h6⟩ := h
  unfold newT
  refine ⟨?_, ⟨m + 1, by omega, up_ss⟩, ?_, ?_, fun t ht => ?_, fun t j ej ht hj => ?_⟩
  · rw [up_ki (by decide), up_k (by decide), up_k (by decide)]; exact h1
  · rw [up_k (by decide), up_k (by decide), up_k (by decide)]; exact h3
  · rw [up_k (by decide), up_k (by decide), up_k (by decide)]; exact h4
  · rw [up_k (by decide), up_k (by decide), up_eq]
    by_cases hkf : t = m
    · rw [if_pos ⟨rfl, hkf⟩]; exact ⟨k, hk, rfl⟩
    · rw [if_neg (fun z => hkf z.2)]; exact h5 t ht
  · rw [up_ss] at ej
    have : m + 1 = j := (nI_eq (by omega) (by omega)).mp ej
    rw [up_k (by decide), up_eq]
    by_cases hkf : t = m
    · rw [if_pos ⟨rfl, hkf⟩]; exact ⟨p, hp.1, hp.2, rfl⟩
    · rw [if_neg (fun z => hkf z.2), up_k (by decide)]; exact h6 t m e (by omega) (by omega)
theorem RP.teamN {P : Bun} {S : Bun} (h : RP P (S 1)) {m : Nat} (hm : m < 6) (k p : Int32) : RP (newT P m k p) (newT6 S m k p 1) := by
  obtain ⟨r1, r2, r3, r4, r5⟩ := h
  unfold newT newT6
  refine ⟨?_, ?_, fun j hj => ?_, fun j hj => ?_, fun t ht => ⟨?_, ?_⟩⟩
  · rw [up_ki (by omega), up_ki (by omega), up_ki (by omega), up_ki (by omega), up_k (by decide), up_k (by decide)]; exact r1
  · rw [up_ss, up_ss]
  · rw [up_ki (by omega), up_ki (by omega), up_ki (by omega), up_k (by decide), up_k (by decide), up_k (by decide)]; exact r3 j hj
  · rw [up_ki (by omega), up_ki (by omega), up_ki (by omega), up_k (by decide), up_k (by decide), up_k (by decide)]; exact r4 j hj
  · rw [up_k (S := up (up P 5 m k) 6 m p) (by decide), up_k (S := up P 5 m k) (by decide), up_ki (by omega), up_ki (by omega), up_eq, up_eq]
    by_cases hkf : t = m
    · rw [if_pos ⟨rfl, by omega⟩, if_pos ⟨rfl, hkf⟩]
    · rw [if_neg (by omega), if_neg (by omega)]; exact (r5 t ht).1
  · rw [up_k (S := up (up P 5 m k) 6 m p) (by decide), up_ki (by omega), up_eq (up P 5 m k), up_eq (up S 1 (44 + 2 * m) k)]
    by_cases hkf : t = m
    · rw [if_pos ⟨rfl, by omega⟩, if_pos ⟨rfl, hkf⟩]
    · rw [if_neg (by omega), if_neg (by omega), up_ki (by omega), up_k (by decide)]; exact (r5 t ht).2
theorem lo_team_ok : lo_team (InvG FI) := by
  intro C N S J a1 a2 hI
  obtain ⟨n, hn, en⟩ := hI.1.1.2.1
  have es : S 1 1 = nI n := hI.1.2.2.1.trans en
  have hbad : (¬ ∃ k w : Nat, k < 6 ∧ (1 ≤ w ∧ w ≤ 9) ∧ a1 = nI k ∧ a2 = nI w) → wX6_team S J a1 a2 (fun r1 S1 => (-1000000001 : Int32) - nI 0 = r1 ∧ InvG FI (bump5 C 0) N S1 J) := by
    intro hb
    unfold wX6_team
    refine in_r (lo := 0) (hi := 5) (by decide) (by decide) (by decide) (fun k _ hk ek => wj (br_f (by decide) ?_)) (fun _ => wj (br_t rfl (both hI (by decide) e_b)))
    exact in_r (lo := 1) (hi := 9) (by decide) (by decide) (by decide) (fun w h1 hw ew => absurd ⟨k, w, by omega, ⟨h1, hw⟩, ek, ew⟩ hb) (fun _ => br_t rfl (both hI (by decide) e_b))
  unfold wX5_team
  refine kind5 (fun k hk ek => wj (br_f (by decide) ?_)) (fun hno => wj (br_t rfl (find5 (k := 0) (by decide) (hbad (fun ⟨k, _, hk, _, e, _⟩ => hno k hk e)))))
  refine pace5 (fun w hw1 hw ew => br_f (by decide) ?_) (fun hno => br_t rfl (find5 (k := 0) (by decide) (hbad (fun ⟨_, w, _, hw, _, e⟩ => hno w hw.1 hw.2 e))))
  subst ek ew
  have h6 : ∀ {post : Int32 → Bun → Prop}, (n = 6 → wX6_finds S J (-1000000002) post) → (n < 6 → wX6_newTeam S J (nI k) (nI w) post) → wX6_team S J (nI k) (nI w) post := by
    intro post ha hb
    unfold wX6_team
    refine in_r (lo := 0) (hi := 5) (by decide) (by decide) (by decide) (fun _ _ _ _ => wj (br_f (by decide) ?_)) (fun hb => absurd rfl (hb k (by omega) (by omega)))
    refine in_r (lo := 1) (hi := 9) (by decide) (by decide) (by decide) (fun _ _ _ _ => br_f (by decide) ?_) (fun hb => absurd rfl (hb w hw1 hw))
    refine ⟨vin1, ?_⟩
    rw [c1', es, i6]
    refine ⟨fun he => ha ((nI_eq (by omega) (by omega)).mp he), fun hne => hb ?_⟩
    have : n ≠ 6 := fun h => hne (by rw [h])
    omega
  rw [en]
  refine ⟨fun hc => ?_, fun hc => ?_⟩
  · have hn6 : n < 6 := by
      rcases Nat.lt_or_ge n 6 with h6 | h6
      · exact h6
      · exact absurd hc (nI_nlt h6 (by omega))
    have vn : vp_in (nI n) 6 := vp_in_nI (by omega) (by decide)
    unfold wX1_addTeam
    rw [en]
    rintro _ rfl
    refine ⟨vn, ?_⟩
    rintro _ rfl
    refine ⟨vn, ?_⟩
    rintro _ rfl
    rintro _ rfl
    rintro _ rfl
    rw [up_k (by decide), up_k (by decide), en, i1, nI_add, tn_nI (by omega)]
    refine h6 (fun h => absurd h (by omega)) (fun _ => ?_)
    unfold wX6_newTeam
    rw [c1', es, ix_t hn6, tn_nI (by omega)]
    refine ⟨vin1, vp_in_nI (by omega) (by decide), ?_⟩
    rintro _ rfl
    rw [up_ki (by omega), es, ix_t1 hn6, tn_nI (by omega)]
    refine ⟨vin1, vp_in_nI (by omega) (by decide), ?_⟩
    rintro _ rfl
    rw [up_ki (by omega), up_ki (by omega), es, i1, nI_add]
    refine ⟨vin1, vin1, ?_⟩
    rintro _ rfl
    rw [up_ss]
    refine ⟨vin1, ?_, hI.now (fun r hr => by rw [up_k hr, up_k hr, up_k hr]) (hI.1.1.teamN en hn6 hk ⟨hw1, hw⟩) (hI.1.2.teamN hn6 _ _)⟩
    exact (show ∀ n : Nat, n < 6 → nI n = nI (n + 1) - nI 1 by decide) n hn6
  · have hn6 : n = 6 := by
      rcases Nat.lt_or_ge n 6 with h6 | h6
      · exact absurd (nI_lt h6 (by omega)) hc
      · omega
    exact find5 (k := 1) (by decide) (h6 (fun _ => both hI (by decide) e_f) (fun h => absurd h (by omega)))
/-- which kind passes for which -/
def okK (k w : Nat) : Prop := w = 0 ∨ k = w ∨ (w = 1 ∧ k = 4) ∨ (w = 3 ∧ k = 5)
theorem okK5 : ∀ k, k < 6 → ∀ w, w < 6 → ((tbKinds k >>> (nI w &&& 31)) &&& 1 = 0 ↔ ¬ okK k w) := by unfold okK; decide
theorem lo_as_ok : lo_as (InvG FI) := by
  intro C N S J a1 a2 hI
  obtain ⟨n, hn, en⟩ := hI.1.1.2.1
  have es : S 1 1 = nI n := hI.1.2.2.1.trans en
  have hbad : (¬ ∃ t w : Nat, t < n ∧ w < 6 ∧ a1 = nI t ∧ a2 = nI w) → wX6_as S J a1 a2 (fun r1 S1 => (-1000000001 : Int32) - nI 0 = r1 ∧ InvG FI (bump5 C 0) N S1 J) := by
    intro hb
    unfold wX6_as
    refine isT6 hn es (fun t ht ex => wj (br_f (by decide) ?_)) (fun _ => wj (br_t rfl (both hI (by decide) e_b)))
    exact in_r (lo := 0) (hi := 5) (by decide) (by decide) (by decide) (fun w h1 hw ew => absurd ⟨t, w, ht, by omega, ex, ew⟩ hb) (fun _ => br_t rfl (both hI (by decide) e_b))
  unfold wX5_as
  refine hasT5 hn en (fun t ht ex => wj (br_f (by decide) ?_)) (fun h1 => wj (br_t rfl (find5 (k := 0) (by decide) (hbad (fun ⟨t, _, ht, _, e, _⟩ => h1 t ht e)))))
  refine kind5 (fun w hw ew => br_f (by decide) ?_) (fun hno => br_t rfl (find5 (k := 0) (by decide) (hbad (fun ⟨_, w, _, hw, _, e⟩ => hno w hw e))))
  subst ex ew
  obtain ⟨k, hk, ek⟩ := hI.1.1.2.2.2.2.1 t (by omega)
  have ht6 : t < 6 := by omega
  have s5 := (hI.1.2.2.2.2.2 t ht6).1.trans ek
  have vt : vp_in (nI t) 6 := vp_in_nI (by omega) (by decide)
  have vk : vp_in (nI k) 6 := vp_in_nI (by omega) (by decide)
  have h6 : ∀ {post : Int32 → Bun → Prop}, (okK k w → post (tbDear k) S) → (¬ okK k w → wX6_finds S J (-1000000003) post) → wX6_as S J (nI t) (nI w) post := by
    intro post ha hb
    unfold wX6_as
    refine isT6 hn es (fun _ _ _ => wj (br_f (by decide) ?_)) (fun hb => absurd rfl (hb t ht))
    refine in_r (lo := 0) (hi := 5) (by decide) (by decide) (by decide) (fun _ _ _ _ => br_f (by decide) ?_) (fun hb => absurd rfl (hb w (by omega) (by omega)))
    refine kindOf6 ht6 ?_
    rw [s5]
    have yes : okK k w → (((1 : Int32) = 0 → wX6_finds S J (-1000000003) (fun r18 S20 => post r18 S20)) ∧ (¬ ((1 : Int32) = 0) → wX6_dear S J (nI t) (fun r22 => post r22 S))) := fun ok => br_f (by decide) (dear6 ht6 hk s5 (ha ok))
    have no : ¬ okK k w → (((0 : Int32) = 0 → wX6_finds S J (-1000000003) (fun r18 S20 => post r18 S20)) ∧ (¬ ((0 : Int32) = 0) → wX6_dear S J (nI t) (fun r22 => post r22 S))) := fun ok => br_t rfl (hb ok)
    have q0 : nI w = 0 ↔ w = 0 := nI_eq (by omega) (b := 0) (by omega)
    have qk : nI k = nI w ↔ k = w := nI_eq (by omega) (by omega)
    have q1 : nI w = 1 ↔ w = 1 := nI_eq (by omega) (b := 1) (by omega)
    have q3 : nI w = 3 ↔ w = 3 := nI_eq (by omega) (b := 3) (by omega)
    have q4 : nI k = 4 ↔ k = 4 := nI_eq (by omega) (b := 4) (by omega)
    have q5 : nI k = 5 ↔ k = 5 := nI_eq (by omega) (b := 5) (by omega)
    rw [q0, qk, q1, q3, q4, q5]
    refine wj ⟨fun h => yes (Or.inl h), fun h0 => ⟨fun h => yes (Or.inr (Or.inl h)), fun hkw => wj ?_⟩⟩
    have last : ¬ (w = 1 ∧ k = 4) → _ := fun h14 => (⟨fun h3 => ⟨fun h5 => yes (Or.inr (Or.inr (Or.inr ⟨h3, h5⟩))), fun h5 => no (by unfold okK; omega)⟩, fun h3 => no (by unfold okK; omega)⟩ : (w = 3 → (k = 5 → _) ∧ (¬ k = 5 → _)) ∧ (¬ w = 3 → _))
    exact ⟨fun h1 => ⟨fun h4 => yes (Or.inr (Or.inr (Or.inl ⟨h1, h4⟩))), fun h4 => last (fun h => h4 h.2)⟩, fun h1 => last (fun h => h1 h.1)⟩
  rw [tn_nI (by omega), ek]
  refine ⟨vt, ?_⟩
  unfold wX5_isOfKind
  refine ⟨vk, ?_⟩
  rw [tn_nI (by omega), okK5 k hk w hw]
  refine ⟨fun hno => br_t rfl ?_, fun hok => br_f (by decide) ⟨vt, vk, ?_⟩⟩
  · exact find5 (k := 2) (by decide) (h6 (fun h => absurd h hno) (fun _ => both hI (by decide) e_k))
  · exact h6 (fun _ => ⟨rfl, hI⟩) (fun h => absurd h hok)
end
