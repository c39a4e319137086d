/-! PLAIN CALLS 4: wipe, tear, image, undo, status -/
section
variable {FI : Bun → Prop} {C C1 : Nat → Bun} {N N1 : Nat → Lon} {S S1 : Bun} {J J1 : Lon}
/-- only the text has changed -/
theorem InvG.text (h : InvG FI C N S J) {T : Bun} (hs : ∀ r, r ≠ 0 → r ≠ 24 → S1 r = S r) (h4 : S1 0 4 = S 0 4) (q : RT T S1) : InvG FI (va_up C 4 T) N S1 J := by
  have e : ∀ b, b ≠ 4 → va_up C 4 T b = C b := fun b hb => up_o hb
  refine h.of ?_ ?_ ?_ ?_ ?_ ?_ (fun b hb => e b (isF_ne hb).2.2.2.2.1)
  · rw [e 1 (by decide), hs 1 (by decide) (by decide)]; exact h.1
  · rw [e 2 (by decide), hs 2 (by decide) (by decide)]; exact h.2.1
  · rw [e 0 (by decide), h4]; exact h.2.2.1
  · rw [e 0 (by decide), hs 4 (by decide) (by decide)]; exact h.2.2.2.1
  · rw [up_s]; exact q
  · exact h.2.2.2.2.2.1.same (fun k hk => e _ (by omega)) (fun _ _ => rfl) (hs 30 (by decide) (by decide)) (hs 31 (by decide) (by decide)) rfl
/-- only what the class keeps itself has changed -/
theorem InvG.self (h : InvG FI C N S J) {B : Bun} (c : B 0 3 = S1 0 4 ∧ zb (S1 0 4)) (d : ∀ k : Nat, k < 7 → B 7 k = S1 4 k) (hs : ∀ r, r ≠ 0 → r ≠ 4 → S1 r = S r) (h24 : S1 0 24 = S 0 24) : InvG FI (va_up C 0 B) N S1 J := by
  have e : ∀ b, b ≠ 0 → va_up C 0 B b = C b := fun b hb => up_o hb
  refine h.of ?_ ?_ ?_ ?_ ?_ ?_ (fun b hb => e b (isF_ne hb).1)
  · rw [e 1 (by decide), hs 1 (by decide) (by decide)]; exact h.1
  · rw [e 2 (by decide), hs 2 (by decide) (by decide)]; exact h.2.1
  · rw [up_s]; exact c
  · rw [up_s]; exact d
  · rw [e 4 (by decide)]; exact h.2.2.2.2.1.same rfl h24 rfl (hs 24 (by decide) (by decide))
  · exact h.2.2.2.2.2.1.same (fun k hk => e _ (by omega)) (fun _ _ => rfl) (hs 30 (by decide) (by decide)) (hs 31 (by decide) (by decide)) rfl
/-- only the kept parish has changed -/
theorem InvG.kept (h : InvG FI C N S J) {P' : Bun} (hs : ∀ r, r ≠ 2 → S1 r = S r) (p : WF P') (q : RP P' (S1 2)) : InvG FI (va_up C 2 P') N S1 J := by
  have e : ∀ b, b ≠ 2 → va_up C 2 P' b = C b := fun b hb => up_o hb
  refine h.of ?_ ?_ ?_ ?_ ?_ ?_ (fun b hb => e b (isF_ne hb).2.2.1)
  · rw [e 1 (by decide), hs 1 (by decide)]; exact h.1
  · rw [up_s]; exact ⟨p, q⟩
  · rw [e 0 (by decide), hs 0 (by decide)]; exact h.2.2.1
  · rw [e 0 (by decide), hs 4 (by decide)]; exact h.2.2.2.1
  · rw [e 4 (by decide)]
    exact h.2.2.2.2.1.same rfl (by rw [hs 0 (by decide)]) rfl (by rw [hs 24 (by decide)])
  · exact h.2.2.2.2.2.1.same (fun k hk => e _ (by omega)) (fun _ _ => rfl) (hs 30 (by decide)) (hs 31 (by decide)) rfl
theorem va_same {α : Type} (f : Nat → α) (k : Nat) : va_up f k (f k) = f := by
  funext j
  rw [vup_eq]
  by_cases h : j = k
  · rw [if_pos h, h]
  · rw [if_neg h]
theorem lo_wipe_ok : lo_wipe (InvG FI) := by
  intro C N S J hI
  obtain ⟨n, hn, e5, e6, hk⟩ := hI.2.2.2.2.1
  unfold wX5_wipe
  rintro _ rfl
  rintro _ rfl
  unfold wX6_wipe
  rintro _ rfl
  rintro _ rfl
  refine ⟨e5.trans e6.symm, hI.text (fun r h0 _ => up_k h0) (up_ki (by decide)) ⟨0, by decide, up_ss, up_ss, ?_⟩⟩
  rw [up_k (by decide), up_k (by decide)]; exact hk
theorem lo_tear_ok : lo_tear (InvG FI) := by
  intro C N S J hI
  obtain ⟨e, hz⟩ := hI.2.2.1
  have h6 : ∀ R : Int32, (S 0 4 = 0 → R = 0) → (¬ S 0 4 = 0 → R = 1) → wX6_tear S J (fun r1 S1 => R = r1 ∧ InvG FI (va_up C 0 (up (C 0) 0 3 0)) N S1 J) := by
    intro R h0 h1
    unfold wX6_tear
    have hN : InvG FI (va_up C 0 (up (C 0) 0 3 0)) N (up S 0 4 0) J := by
      refine hI.self ⟨by rw [up_ss, up_ss], by rw [up_ss]; exact zb0⟩ ?_ (fun r hr _ => up_k hr) (up_ki (by decide))
      rw [up_k (by decide), up_k (by decide)]; exact hI.2.2.2.1
    refine wj ⟨fun h => ?_, fun h => ?_⟩
    · rintro _ rfl
      exact ⟨h0 h, hN⟩
    · rintro _ rfl
      exact ⟨h1 h, hN⟩
  unfold wX5_tear
  rw [e]
  refine wj ⟨fun h => ?_, fun h => ?_⟩
  · rintro _ rfl
    exact h6 0 (fun _ => rfl) (fun h' => absurd h h')
  · rintro _ rfl
    exact h6 1 (fun h' => absurd h' h) (fun _ => rfl)
/-- a parish that says the same -/
def sameP (P O : Bun) : Prop := P 0 0 = O 0 0 ∧ P 0 1 = O 0 1 ∧ (∀ k : Nat, k < 36 → P 3 k = O 3 k) ∧ (∀ k : Nat, k < 6 → P 4 k = O 4 k) ∧ (∀ k : Nat, k < 6 → P 5 k = O 5 k) ∧ ∀ k : Nat, k < 6 → P 6 k = O 6 k
theorem WF.copy {P O : Bun} (h : WF O) (s : sameP P O) : WF P := by
  obtain ⟨h1, h2, h3, h4, h5, h6⟩ := h
  obtain ⟨s0, s1, s3, s4, s5, s6⟩ := s
  refine ⟨by rw [s0]; exact h1, by rw [s1]; exact h2, fun f hf => ⟨fun w hw => ?_, fun w hw1 hw2 => ?_, ?_, ?_⟩, fun f hf => by rw [s4 f hf]; exact h4 f hf, fun t ht => by rw [s5 t ht]; exact h5 t ht, fun t m e ht hm => ?_⟩
  · rw [s3 _ (by omega)]; exact (h3 f hf).1 w hw
  · rw [s3 _ (by omega)]; exact (h3 f hf).2.1 w hw1 hw2
  · rw [s3 _ (by omega)]; exact (h3 f hf).2.2.1
  · rw [s3 _ (by omega)]; exact (h3 f hf).2.2.2
  · rw [s6 t (by omega)]; exact h6 t m (s1 ▸ e) ht hm
theorem RP.copy {P O : Bun} {s s' : Nat → Int32} (h : RP O s) (hs : sameP P O) (e : ∀ k : Nat, k < 56 → s' k = s k) : RP P s' := by
  obtain ⟨r1, r2, r3, r4, r5⟩ := h
  obtain ⟨s0, s1, s3, s4, s5, s6⟩ := hs
  refine ⟨by rw [e 0 (by omega), s0]; exact r1, by rw [e 1 (by omega), s1]; exact r2, fun k hk => by rw [e _ (by omega), s3 k hk]; exact r3 k hk, fun k hk => by rw [e _ (by omega), s4 k hk]; exact r4 k hk, fun t ht => ⟨by rw [e _ (by omega), s5 t ht]; exact (r5 t ht).1, by rw [e _ (by omega), s6 t ht]; exact (r5 t ht).2⟩⟩
theorem take5 {P O : Bun} {post : Bun → Bun → Prop} (h : ∀ P', sameP P' O → post P' O) : wX1_takeFrom P O post := by
  unfold wX1_takeFrom
  rintro _ rfl _ rfl _ rfl _ rfl _ rfl _ rfl
  refine h _ ⟨?_, ?_, fun k hk => ?_, fun k hk => ?_, fun k hk => ?_, fun k hk => ?_⟩
  · rw [up_o (by decide), up_o (by decide), up_o (by decide), up_o (by decide), up_ki (by decide), up_ss]
  · rw [up_o (by decide), up_o (by decide), up_o (by decide), up_o (by decide), up_ss]
  · rw [up_o (by decide), up_o (by decide), up_o (by decide), up_s]; exact sb_cpy0 hk
  · rw [up_o (by decide), up_o (by decide), up_s]; exact sb_cpy0 hk
  · rw [up_o (by decide), up_s]; exact sb_cpy0 hk
  · rw [up_s]; exact sb_cpy0 hk
theorem lo_image_ok : lo_image (InvG FI) := by
  intro C N S J hI
  unfold wX5_image
  refine take5 (fun P' hP' => ?_)
  rintro _ rfl _ rfl
  unfold wX6_image
  refine wl_up2 (fun i x S2 => x = nI i ∧ (∀ r, r ≠ 2 → S2 r = S r) ∧ ∀ k : Nat, k < i → S2 2 k = S 1 k) 56 ?_ (i := 0) (by decide) ⟨rfl, fun _ _ => rfl, fun k hk => absurd hk (by omega)⟩
  rintro i x S2 K hi ⟨rfl, hr, hk⟩ hK
  refine ⟨fun h => ?_, fun h => ?_⟩
  · have : i = 56 := by
      have := (nI_leI (a := 56) (by decide) (by omega)).mp h
      omega
    subst this
    rintro _ rfl
    refine ⟨rfl, ?_⟩
    have h1 : va_up (va_up C 2 P') 1 (C 1) = va_up C 2 P' := by
      rw [show C 1 = va_up C 2 P' 1 from (up_o (by decide)).symm]; exact va_same _ _
    rw [h1]
    have h2 : InvG FI (va_up C 2 P') N S2 J := hI.kept hr (hI.1.1.copy hP') (hI.1.2.copy hP' hk)
    refine h2.self ⟨by rw [up_ss, up_ss], by rw [up_ss]; exact zb1⟩ ?_ (fun r hr _ => up_k hr) (up_ki (by decide))
    rw [up_k (by decide), up_k (by decide)]; exact h2.2.2.2.1
  · have hlt : i < 56 := by
      rcases Nat.lt_or_ge i 56 with h' | h'
      · exact h'
      · exact absurd (nI_le (a := 56) h' (by omega)) h
    refine ⟨vp_in_nI (by omega) (by decide), vp_in_nI (by omega) (by decide), ?_⟩
    rw [tn_nI (by omega)]
    rintro _ rfl _ rfl
    refine hK _ _ hlt ⟨nI_add i 1, fun r h2 => by rw [up_k h2]; exact hr r h2, fun k hk' => ?_⟩
    rw [up_eq, hr 1 (by decide)]
    by_cases hki : k = i
    · rw [if_pos ⟨rfl, hki⟩, hki]
    · rw [if_neg (fun z => hki z.2)]; exact hk k (by omega)
theorem lo_undo_ok : lo_undo (InvG FI) := by
  intro C N S J hI
  obtain ⟨e, hz⟩ := hI.2.2.1
  unfold wX5_undo
  rw [e]
  refine ⟨fun h => find5 (k := 3) (by decide) ?_, fun h => ?_⟩
  · unfold wX6_undo
    exact br_t h (both hI (by decide) e_n)
  · refine take5 (fun P' hP' => ?_)
    rintro _ rfl
    unfold wX6_undo
    refine br_f h ?_
    refine wl_up2 (fun i x S2 => x = nI i ∧ (∀ r, r ≠ 1 → S2 r = S r) ∧ ∀ k : Nat, k < i → S2 1 k = S 2 k) 56 ?_ (i := 0) (by decide) ⟨rfl, fun _ _ => rfl, fun k hk => absurd hk (by omega)⟩
    rintro i x S2 K hi ⟨rfl, hr, hk⟩ hK
    refine ⟨fun h => ?_, fun h => ?_⟩
    · have : i = 56 := by
        have := (nI_leI (a := 56) (by decide) (by omega)).mp h
        omega
      subst this
      have h1 : va_up (va_up C 1 P') 2 (C 2) = va_up C 1 P' := by
        rw [show C 2 = va_up C 1 P' 2 from (up_o (by decide)).symm]; exact va_same _ _
      rw [h1]
      have h2 : InvG FI (va_up C 1 P') N S2 J := hI.now hr (hI.2.1.1.copy hP') (hI.2.1.2.copy hP' hk)
      exact ⟨vin0, by rw [c0']; exact h2.1.2.1.symm, h2⟩
    · have hlt : i < 56 := by
        rcases Nat.lt_or_ge i 56 with h' | h'
        · exact h'
        · exact absurd (nI_le (a := 56) h' (by omega)) h
      refine ⟨vp_in_nI (by omega) (by decide), vp_in_nI (by omega) (by decide), ?_⟩
      rw [tn_nI (by omega)]
      rintro _ rfl _ rfl
      refine hK _ _ hlt ⟨nI_add i 1, fun r h2 => by rw [up_k h2]; exact hr r h2, fun k hk' => ?_⟩
      rw [up_eq, hr 2 (by decide)]
      by_cases hki : k = i
      · rw [if_pos ⟨rfl, hki⟩, hki]
      · rw [if_neg (fun z => hki z.2)]; exact hk k (by omega)
end
