/-- a new field in the model's row -/
theorem newField6 {S : Bun} {J : Lon} {n : Nat} (hn : n < 6) (e : S 1 0 = nI n) {post : Int32 → Bun → Prop} (h : ∀ S', (∀ r, r ≠ 1 → S' r = S r) → S' 1 0 = nI (n + 1) → S' 1 1 = S 1 1 → (∀ k : Nat, k < 36 → S' 1 (2 + k) = if 6 * n ≤ k ∧ k < 6 * n + 6 then tbFirst (k - 6 * n) else S 1 (2 + k)) → (∀ f : Nat, f < 6 → S' 1 (38 + f) = if f = n then 0 else S 1 (38 + f)) → (∀ k : Nat, 44 ≤ k → S' 1 k = S 1 k) → post (nI n) S') : wX6_newField S J post := by
  unfold wX6_newField
  have ea : ∀ j : Nat, nI (2 + 6 * n) + nI j = nI (2 + 6 * n + j) := fun j => nI_add _ _
  refine ⟨vin0, ?_⟩
  intro x1 hx1
  rw [c0', e, i2, i6, pk_mul, nI_add] at hx1
  subst hx1
  have i100 : (100 : Int32) = nI 100 := rfl
  have v : ∀ j : Nat, j < 6 → vp_in (nI (2 + 6 * n + j)) 56 := fun j hj => vp_in_nI (by omega) (by decide)
  have t : ∀ j : Nat, j < 6 → (nI (2 + 6 * n + j)).toNatClampNeg = 2 + 6 * n + j := fun j hj => tn_nI (by omega)
  rw [show nI (2 + 6 * n) + (0 : Int32) = nI (2 + 6 * n + 0) from ea 0, show nI (2 + 6 * n) + (1 : Int32) = nI (2 + 6 * n + 1) from ea 1, show nI (2 + 6 * n) + (2 : Int32) = nI (2 + 6 * n + 2) from ea 2, show nI (2 + 6 * n) + (3 : Int32) = nI (2 + 6 * n + 3) from ea 3, show nI (2 + 6 * n) + (4 : Int32) = nI (2 + 6 * n + 4) from ea 4, show nI (2 + 6 * n) + (5 : Int32) = nI (2 + 6 * n + 5) from ea 5, t 0 (by decide), t 1 (by decide), t 2 (by decide), t 3 (by decide), t 4 (by decide), t 5 (by decide), c0']
  refine ⟨v 0 (by decide), ?_⟩
  intro S2 h2
  refine ⟨v 1 (by decide), ?_⟩
  intro S3 h3
  refine ⟨v 2 (by decide), ?_⟩
  intro S4 h4
  refine ⟨v 3 (by decide), ?_⟩
  intro S5 h5
  refine ⟨v 4 (by decide), ?_⟩
  intro S6 h6
  refine ⟨v 5 (by decide), ?_⟩
  intro S7 h7
  have a0 : S7 1 0 = nI n := by rw [h7, up_ki (by omega), h6, up_ki (by omega), h5, up_ki (by omega), h4, up_ki (by omega), h3, up_ki (by omega), h2, up_ki (by omega), e]
  rw [a0, show (38 : Int32) + nI n = nI (38 + n) from nI_add 38 n, tn_nI (by omega)]
  refine ⟨vin0, vp_in_nI (by omega) (by decide), ?_⟩
  intro S8 h8
  have a1 : S8 1 0 = nI n := by rw [h8, up_ki (by omega), a0]
  rw [a1]
  refine ⟨vin0, vin0, ?_⟩
  intro S9 h9
  have a2 : S9 1 0 = nI (n + 1) := by rw [h9, up_ss]; exact nI_1 n
  refine ⟨vin0, ?_⟩
  rw [a2, show nI (n + 1) - (1 : Int32) = nI n from nI_pred n]
  have q : ∀ k : Nat, k ≠ 0 → S9 1 k = S8 1 k := fun k hk => by rw [h9, up_ki hk]
  have q8 : ∀ k : Nat, S8 1 k = if k = 38 + n then 0 else S7 1 k := fun k => by
    rw [h8, up_eq]
    by_cases hk : k = 38 + n
    · rw [if_pos ⟨rfl, hk⟩, if_pos hk]
    · rw [if_neg (fun z => hk z.2), if_neg hk]
  have q7 : ∀ k : Nat, S7 1 k = if k = 2 + 6 * n + 5 then 100 else if k = 2 + 6 * n + 4 then 0 else if k = 2 + 6 * n + 3 then -1 else if k = 2 + 6 * n + 2 then -1 else if k = 2 + 6 * n + 1 then 0 else if k = 2 + 6 * n + 0 then 0 else S 1 k := fun k => by
    rw [h7, up_eq, h6, up_eq, h5, up_eq, h4, up_eq, h3, up_eq, h2, up_eq]
    simp only [true_and]
  refine h S9 ?_ a2 ?_ ?_ ?_ ?_
  · intro r hr
    rw [h9, up_k hr, h8, up_k hr, h7, up_k hr, h6, up_k hr, h5, up_k hr, h4, up_k hr, h3, up_k hr, h2, up_k hr]
  · rw [q 1 (by decide), q8, if_neg (by omega), q7, if_neg (by omega), if_neg (by omega), if_neg (by omega), if_neg (by omega), if_neg (by omega), if_neg (by omega)]
  · intro k hk
    rw [q _ (by omega), q8, if_neg (by omega), q7]
    by_cases hb : 6 * n ≤ k ∧ k < 6 * n + 6
    · rw [if_pos hb]
      obtain ⟨j, hj, rfl⟩ : ∃ j, j < 6 ∧ k = 6 * n + j := ⟨k - 6 * n, by omega, by omega⟩
      rw [Nat.add_sub_cancel_left]
      match j, hj with
      | 0, _ => rw [if_neg (by omega), if_neg (by omega), if_neg (by omega), if_neg (by omega), if_neg (by omega), if_pos (by omega)]; rfl
      | 1, _ => rw [if_neg (by omega), if_neg (by omega), if_neg (by omega), if_neg (by omega), if_pos (by omega)]; rfl
      | 2, _ => rw [if_neg (by omega), if_neg (by omega), if_neg (by omega), if_pos (by omega)]; rfl
      | 3, _ => rw [if_neg (by omega), if_neg (by omega), if_pos (by omega)]; rfl
      | 4, _ => rw [if_neg (by omega), if_pos (by omega)]; rfl
      | 5, _ => rw [if_pos (by omega)]; rfl
      | j + 6, hj => exact absurd hj (by omega)
    · rw [if_neg hb, if_neg (by omega), if_neg (by omega), if_neg (by omega), if_neg (by omega), if_neg (by omega), if_neg (by omega)]
  · intro f hf
    rw [q _ (by omega), q8, q7]
    by_cases hb : f = n
    · rw [if_pos (by omega), if_pos hb]
    · rw [if_neg (by omega), if_neg hb, if_neg (by omega), if_neg (by omega), if_neg (by omega), if_neg (by omega), if_neg (by omega), if_neg (by omega)]
  · intro k hk
    rw [q _ (by omega), q8, if_neg (by omega), q7, if_neg (by omega), if_neg (by omega), if_neg (by omega), if_neg (by omega), if_neg (by omega), if_neg (by omega)]
theorem tbF_ok : (tbFirst 0 = 0 ∧ tbFirst 1 = 0 ∧ tbFirst 2 = -1) ∧ tbFirst 3 = -1 ∧ tbFirst 4 = 0 ∧ tbFirst 5 = 100 := by decide
theorem WF.newF {P P' : Bun} {n : Nat} (h : WF P) (hn : n < 6) (e : P 0 0 = nI n) (hf : newF P P' n) : WF P' := by
  obtain ⟨h1, h2, h3, h4, h5, h6⟩ := h
  obtain ⟨a1, a2, a3, a4, a5, a6⟩ := hf
  refine ⟨⟨n + 1, by omega, a1⟩, by rw [a2]; exact h2, ?_, ?_, by rw [a5]; exact h5, by rw [a2, a6]; exact h6⟩
  · intro f hf
    by_cases hfn : f = n
    · subst hfn
      have key : ∀ w, w < 6 → P' 3 (6 * f + w) = tbFirst w := fun w hw => by rw [a3, if_pos ⟨by omega, by omega⟩, Nat.add_sub_cancel_left]
      refine ⟨fun w hw => ?_, fun w hw hw2 => ?_, ?_, ?_⟩
      · rw [key w (by omega)]
        match w, hw with
        | 0, _ => decide
        | 1, _ => decide
        | w + 2, hw => exact absurd hw (by omega)
      · rw [key w (by omega)]
        match w, hw, hw2 with
        | 2, _, _ => decide
        | 3, _, _ => decide
        | 0, hw, _ => exact absurd hw (by omega)
        | 1, hw, _ => exact absurd hw (by omega)
        | w + 4, _, hw => exact absurd hw (by omega)
      · rw [key 4 (by decide)]; decide
      · rw [key 5 (by decide)]; decide
    · have key : ∀ w, w < 6 → P' 3 (6 * f + w) = P 3 (6 * f + w) := fun w hw => by rw [a3, if_neg (by omega)]
      obtain ⟨b1, b2, b3, b4⟩ := h3 f hf
      exact ⟨fun w hw => by rw [key w (by omega)]; exact b1 w hw, fun w hw hw2 => by rw [key w (by omega)]; exact b2 w hw hw2, by rw [key 4 (by decide)]; exact b3, by rw [key 5 (by decide)]; exact b4⟩
  · intro f hf
    rw [a4]
    by_cases hfn : f = n
    · rw [if_pos hfn]; decide
    · rw [if_neg hfn]; exact h4 f hf
section
variable {FI : Bun → Prop} {C C1 : Nat → Bun} {N N1 : Nat → Lon} {S S1 : Bun} {J J1 : Lon}
/-- only now and the model's row have changed -/
theorem InvG.now (h : InvG FI C N S J) {P' : Bun} (hs : ∀ r, r ≠ 1 → S1 r = S r) (p : WF P') (q : RP P' (S1 1)) : InvG FI (va_up C 1 P') N S1 J := by
  have e : ∀ b, b ≠ 1 → va_up C 1 P' b = C b := fun b hb => up_o hb
  refine h.of ?_ ?_ ?_ ?_ ?_ ?_ (fun b hb => e b (isF_ne hb).2.1)
  · rw [up_s]; exact ⟨p, q⟩
  · rw [e 2 (by decide), hs 2 (by decide)]; exact h.2.1
  · rw [e 0 (by decide), hs 0 (by decide)]; exact h.2.2.1
  · rw [e 0 (by decide), hs 4 (by decide)]; exact h.2.2.2.1
  · rw [e 4 (by decide)]
    exact h.2.2.2.2.1.same rfl (by rw [hs 0 (by decide)]) rfl (by rw [hs 24 (by decide)])
  · exact h.2.2.2.2.2.1.same (fun k hk => e _ (by omega)) (fun _ _ => rfl) (hs 30 (by decide)) (hs 31 (by decide)) rfl
theorem lo_field_ok : lo_field (InvG FI) := by
  intro C N S J hI
  obtain ⟨n, hn, en⟩ := hI.1.1.1
  have es : S 1 0 = nI n := hI.1.2.1.trans en
  unfold wX5_field
  rw [en]
  refine ⟨fun hc => ?_, fun hc => ?_⟩
  · have hn6 : n < 6 := by
      rcases Nat.lt_or_ge n 6 with h6 | h6
      · exact h6
      · exact absurd hc (nI_nlt h6 (by omega))
    refine addField5 hn6 en (fun P' hP' => ?_)
    rintro _ rfl
    unfold wX6_field
    rw [c0', es]
    refine ⟨vin0, fun h6 => ?_, fun _ => ?_⟩
    · exact absurd ((nI_eq (b := 6) (by omega) (by decide)).mp h6) (by omega)
    · refine newField6 hn6 es (fun S' h1 h2 h3 h4 h5 h6 => ⟨rfl, ?_⟩)
      obtain ⟨r1, r2, r3, r4, r5⟩ := hI.1.2
      obtain ⟨a1, a2, a3, a4, a5, a6⟩ := id hP'
      refine hI.now h1 (hI.1.1.newF hn6 en hP') ⟨by rw [h2, a1], by rw [h3, a2]; exact r2, fun k hk => ?_, fun f hf => ?_, fun t ht => ?_⟩
      · rw [h4 k hk, a3, r3 k hk]
      · rw [h5 f hf, a4, r4 f hf]
      · rw [h6 _ (by omega), h6 _ (by omega), a5, a6]; exact r5 t ht
  · have hn6 : n = 6 := by
      rcases Nat.lt_or_ge n 6 with h6 | h6
      · exact absurd (nI_lt h6 (by decide)) hc
      · omega
    subst hn6
    refine find5 (k := 1) (by decide) ?_
    unfold wX6_field
    rw [c0', es]
    refine ⟨vin0, fun _ => both hI (by decide) e_f, fun h => absurd rfl h⟩
end
